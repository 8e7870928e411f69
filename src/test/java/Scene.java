import java.util.ArrayList;
import java.util.Collections;
import java.util.List;

/** A new object and the calls that make it what a test is about; it can be made as often as is needed. */
final class Scene {
    static final int BAD = KnotNames.BAD, STATE = KnotNames.STATE, FULL = KnotNames.FULL;
    static final int NONE = KnotNames.NONE, NO = KnotNames.NO, NOT_SO_MANY = -5;
    static final int MIN = Integer.MIN_VALUE, MAX = Integer.MAX_VALUE;
    private static final int MOST_CALLS = 512;

    private final List<String> calls;
    private long[] sight = null;

    private Scene(List<String> calls) {
        this.calls = calls;
    }

    static Scene fresh() {
        return new Scene(new ArrayList<>());
    }

    static Scene told(String text) {
        return fresh().typed(text).then("camp");
    }

    /** Names, a contract, unlike images, deeds that can be undone, a trace and a text half told. */
    static Scene rich() {
        return told("hul;hr;h;huli;hul;").then("adds 0", "keep 0", "ties 1 4", "adds 4", "keep 1")
                .then("loosens 3", "unties 4", "rate 3 0").typed("hul");
    }

    /** As much of everything as there may be. */
    static Scene full() {
        Scene scene = told("huuuuuuuu;hdddddddd;hllllllll;hrrrrrrrr;hiiiiiiii;hoooooooo;");
        for (int h = 0; h < 6; h++) {
            scene = scene.times(4, "ties " + h + " " + h);
        }
        return scene.then("keep 0").added("uliulidrodro").then("keep 1").typed("hul;" + " ".repeat(196));
    }

    static List<Scene> all() {
        return List.of(fresh(), rich(), full());
    }

    Scene then(String... more) {
        List<String> longer = new ArrayList<>(calls);
        Collections.addAll(longer, more);
        return new Scene(longer);
    }

    Scene times(int times, String call) {
        return then(Collections.nCopies(times, call).toArray(new String[0]));
    }

    Scene typed(String text) {
        return then(text.chars().mapToObj(letter -> "type " + letter).toArray(String[]::new));
    }

    Scene tied(int h, String turns) {
        return then(turns.chars().mapToObj(letter -> "ties " + h + " " + Check.turn((char) letter))
                .toArray(String[]::new));
    }

    Scene added(String turns) {
        return then(turns.chars().mapToObj(letter -> "adds " + Check.turn((char) letter)).toArray(String[]::new));
    }

    int length() {
        return calls.size();
    }

    private KnotNames make() {
        KnotNames x = new KnotNames();
        for (String call : calls) {
            Call.make(x, call);
        }
        return x;
    }

    /** What each of some calls more answers, one behind the other. */
    long[] answersOf(List<String> more) {
        if (calls.size() + more.size() > MOST_CALLS) {
            throw new IllegalStateException("more than 512 calls on one object");
        }
        KnotNames x = make();
        return more.stream().mapToLong(call -> Call.make(x, call)).toArray();
    }

    /** One call more answers as is due. */
    Scene answers(String call, long due) {
        Trial.due(call + " behind " + this, answersOf(List.of(call))[0], due);
        return this;
    }

    /** One call more answers as is due, and no call can tell that it was made. */
    Scene asks(String call, long due) {
        answers(call, due);
        then(call).isSeenAs(this);
        return this;
    }

    /** Each of the calls is refused with the same answer, and no call can tell that it was made. */
    Scene refuses(long due, String... refused) {
        for (String call : refused) {
            asks(call, due);
        }
        return this;
    }

    /** Every call answers as it would in another scene. */
    Scene isSeenAs(Scene other) {
        String difference = Sight.difference(sight(), other.sight());
        Trial.due("what can be seen behind " + this + " and behind " + other, difference, "");
        return this;
    }

    private long[] sight() {
        if (sight == null) {
            sight = Sight.of(this);
        }
        return sight;
    }

    /** The names and the contract are these: "ul r |u". */
    Scene reads(String due) {
        Trial.due("names and contract behind " + this, Check.all(make()), due);
        return this;
    }

    @Override
    public String toString() {
        int from = Math.max(0, calls.size() - 6);
        return (from > 0 ? "[.. " : "[") + String.join(", ", calls.subList(from, calls.size())) + "]";
    }
}
