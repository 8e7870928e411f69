import java.lang.reflect.Method;
import java.util.ArrayList;
import java.util.Arrays;
import java.util.List;
import java.util.Random;

/** All promises: many runs of 512 calls, each answer against the model's. */
public final class ModelTest {
    private static final int RUNS = 600;
    private static final int CALLS = 512;

    /** Each call with the lowest and highest of its numbers, and how often it is called. */
    private static final String[] CALL_TABLE = {
        "type 6 0:255", "clear 1", "camp 2", "name 6 0:5 -1:11", "contract 3 -1:11", "now 6 0:3",
        "ties 24 0:5 0:5", "loosens 8 0:5", "bends 12 0:5 0:5", "unties 3 0:5", "adds 20 0:5", "tears 3",
        "undo 10", "alike 6 0:5", "ring 8 0:5", "way 6 0:5 0:5", "root 6 0:5", "order 6 0:5",
        "cold 8 0:5 0:5 0:10 0:1", "mixed 6 0:5 0:12", "newName 1 1:4 1:4 -1:3", "pulls 6 0:3",
        "lives 2 -1:6", "next 1", "porridge 2 0:10 0:6 0:6 0:1", "share 4 0:5 1:99", "rate 10 0:5 0:5",
        "keep 3 0:1", "back 2 0:1", "count 3 0:1", "trace 3"
    };

    private final Random random;
    private final KnotNames program = new KnotNames();
    private final Model model = new Model();
    private final StringBuilder story = new StringBuilder();
    private int calls = 0;

    private ModelTest(long seed) {
        random = new Random(seed);
    }

    public static void main(String[] args) throws Exception {
        List<String> often = new ArrayList<>();
        for (String row : CALL_TABLE) {
            for (int i = Integer.parseInt(row.split(" ")[1]); i > 0; i--) {
                often.add(row);
            }
        }
        for (int run = 0; run < RUNS; run++) {
            ModelTest test = new ModelTest(run);
            if (!test.agrees(often)) {
                System.out.println("run " + run + ":" + test.story);
                System.exit(1);
            }
        }
        System.out.println("all answers are as due");
    }

    private boolean agrees(List<String> often) throws Exception {
        if (random.nextInt(8) > 0 && !tells(true)) {
            return false;
        }
        while (calls < CALLS) {
            String row = often.get(random.nextInt(often.size()));
            boolean telling = random.nextInt(model.count(0) == 0 ? 6 : 200) == 0;
            if (telling ? !tells(random.nextBoolean()) : !agreesIn(row.split(" "))) {
                return false;
            }
        }
        return true;
    }

    /** Types a text and reads it; a wrong one has a letter that may not stand there. */
    private boolean tells(boolean right) throws Exception {
        int herders = right ? random.nextInt(7) : 1 + random.nextInt(7);
        int kinds = 2 + random.nextInt(5);
        int most = 1 + random.nextInt(8);
        StringBuilder text = new StringBuilder();
        for (int h = 0; h < herders; h++) {
            text.append(random.nextInt(4) == 0 ? " h" : "h");
            for (int k = random.nextInt(most + 1); k > 0; k--) {
                text.append(Check.TURNS.charAt(random.nextInt(kinds)));
                text.append(random.nextInt(9) == 0 ? " " : "");
            }
            text.append(";");
        }
        if (!right) {
            String letters = "hudlrio; x";
            text.insert(random.nextInt(text.length() + 1), letters.charAt(random.nextInt(letters.length())));
        }
        boolean same = agreesIn("clear 0".split(" "));
        for (char letter : text.toString().toCharArray()) {
            same = same && agreesIn(("type 0 " + (int) letter + ":" + (int) letter).split(" "));
        }
        return same && agreesIn("camp 0".split(" "));
    }

    private boolean agreesIn(String[] call) throws Exception {
        Object[] numbers = new Object[call.length - 2];
        Class<?>[] types = new Class<?>[numbers.length];
        Arrays.fill(types, int.class);
        boolean typing = call[1].equals("0");
        for (int i = 0; i < numbers.length; i++) {
            String[] bounds = call[i + 2].split(":");
            numbers[i] = number(Integer.parseInt(bounds[0]), Integer.parseInt(bounds[1]), typing);
        }
        Method ours = KnotNames.class.getMethod(call[0], types);
        Method theirs = Model.class.getMethod(call[0], types);
        Object got = ours.invoke(program, numbers);
        Object due = theirs.invoke(model, numbers);
        calls++;
        story.append("\n  ").append(call[0]).append(Arrays.toString(numbers)).append(" answered ").append(got);
        if (!got.equals(due)) {
            story.append(", due is ").append(due);
            return false;
        }
        return true;
    }

    private int number(int lowest, int highest, boolean justThese) {
        if (!justThese && random.nextInt(60) == 0) {
            int[] wrong = {lowest - 1, highest + 1, Integer.MIN_VALUE, Integer.MAX_VALUE};
            return wrong[random.nextInt(wrong.length)];
        }
        return lowest + random.nextInt(highest - lowest + 1);
    }
}
