import java.math.BigInteger;
import java.util.ArrayDeque;
import java.util.ArrayList;
import java.util.Arrays;
import java.util.Collections;
import java.util.Deque;
import java.util.HashMap;
import java.util.HashSet;
import java.util.List;
import java.util.Map;
import java.util.Set;

/** The document once more, in other ways than the class: by texts, sets and trying all there is. */
public final class Model {
    private static final int BAD = -1, STATE = -2, FULL = -3, NONE = -9, NO = -1000000;
    private static final String TURNS = "udlrio";

    private String text = "";
    private List<String> names = new ArrayList<>();
    private String contract = "";
    private final Deque<Object[]> past = new ArrayDeque<>();
    private final Map<Integer, Object[]> images = new HashMap<>();
    private long trace = 0;

    static String tight(String row) {
        String before;
        do {
            before = row;
            for (String two : new String[] {"ud", "du", "lr", "rl", "io", "oi"}) {
                row = row.replace(two, "");
            }
        } while (!before.equals(row));
        return row;
    }

    private static String inverse(String row) {
        StringBuilder undoing = new StringBuilder();
        for (char letter : row.toCharArray()) {
            undoing.insert(0, undoes(letter));
        }
        return undoing.toString();
    }

    private static char undoes(char letter) {
        switch (letter) {
            case 'u': return 'd';
            case 'd': return 'u';
            case 'l': return 'r';
            case 'r': return 'l';
            case 'i': return 'o';
            default: return 'i';
        }
    }

    private Object[] image() {
        return new Object[] {new ArrayList<>(names), contract};
    }

    @SuppressWarnings("unchecked")
    private void restore(Object[] image) {
        names = new ArrayList<>((List<String>) image[0]);
        contract = (String) image[1];
    }

    private void remember() {
        past.push(image());
        if (past.size() > 10) {
            past.removeLast();
        }
    }

    private boolean no(int h) {
        return h < 0 || h >= names.size();
    }

    private int turns() {
        return String.join("", names).length();
    }

    public int type(int letter) {
        if (letter < 0 || letter > 255) {
            return BAD;
        }
        if (text.length() == 200) {
            return FULL;
        }
        text += (char) letter;
        return text.length();
    }

    public int clear() {
        int had = text.length();
        text = "";
        return had;
    }

    /** The fault is behind the longest start of the text that a right text may have. */
    public int camp() {
        String start = "( *h *([udlrio] *){0,8}; *){0,5}";
        String item = " *h *([udlrio] *){0,8}";
        String whole = " *(h *([udlrio] *){0,8}; *){0,6}";
        if (!text.matches(whole)) {
            for (int length = 1; length <= text.length(); length++) {
                String part = text.substring(0, length);
                if (!part.matches(whole) && !part.matches(" *" + start + item)) {
                    return -10 - (length - 1);
                }
            }
            return -10 - text.length();
        }
        names = new ArrayList<>();
        for (String told : text.replace(" ", "").split(";")) {
            if (!told.isEmpty()) {
                names.add(tight(told.substring(1)));
            }
        }
        text = "";
        contract = "";
        past.clear();
        images.clear();
        return names.size();
    }

    private static int part(String row, int k) {
        if (k == -1) {
            return row.length();
        }
        return k < 0 || k >= row.length() ? BAD : TURNS.indexOf(row.charAt(k));
    }

    public int name(int h, int k) {
        return no(h) ? BAD : part(names.get(h), k);
    }

    public int contract(int k) {
        return part(contract, k);
    }

    public int now(int what) {
        if (what == 0) {
            int bits = 0;
            for (int h = 0; h < names.size(); h++) {
                bits += names.get(h).isEmpty() ? 0 : 1 << h;
            }
            return bits;
        }
        if (what == 1) {
            return new HashSet<>(names).size();
        }
        return what == 2 ? turns() : what == 3 ? past.size() : BAD;
    }

    public int ties(int h, int turn) {
        if (no(h) || turn < 0 || turn > 5) {
            return BAD;
        }
        String tied = tight(names.get(h) + TURNS.charAt(turn));
        if (tied.length() > 12) {
            return FULL;
        }
        remember();
        names.set(h, tied);
        return tied.length();
    }

    public int loosens(int h) {
        if (no(h)) {
            return BAD;
        }
        String had = names.get(h);
        if (had.isEmpty()) {
            return STATE;
        }
        remember();
        names.set(h, had.substring(0, had.length() - 1));
        return TURNS.indexOf(had.charAt(had.length() - 1));
    }

    public int bends(int a, int b) {
        if (no(a) || no(b) || a == b) {
            return BAD;
        }
        String first = tight(names.get(a) + names.get(b));
        String other = tight(names.get(b) + names.get(a));
        if (first.length() > 12 || other.length() > 12) {
            return FULL;
        }
        remember();
        names.set(a, first);
        names.set(b, other);
        return first.length();
    }

    public int unties(int h) {
        if (no(h)) {
            return BAD;
        }
        remember();
        return names.set(h, "").length();
    }

    public int adds(int turn) {
        if (turn < 0 || turn > 5) {
            return BAD;
        }
        if (contract.length() == 12) {
            return FULL;
        }
        remember();
        contract += TURNS.charAt(turn);
        return contract.length();
    }

    public int tears() {
        remember();
        int had = contract.length();
        contract = "";
        return had;
    }

    public int undo() {
        if (past.isEmpty()) {
            return STATE;
        }
        restore(past.pop());
        return past.size();
    }

    public int alike(int h) {
        if (no(h)) {
            return BAD;
        }
        int bits = 0;
        for (int other = 0; other < names.size(); other++) {
            bits += names.get(h).equals(names.get(other)) ? 1 << other : 0;
        }
        return bits;
    }

    /** Of all that a ring is, begun elsewhere, the first one. */
    private static String ringOf(String name) {
        while (name.length() > 1 && undoes(name.charAt(0)) == name.charAt(name.length() - 1)) {
            name = name.substring(1, name.length() - 1);
        }
        String least = name;
        for (int k = 0; k < name.length(); k++) {
            String begun = name.substring(k) + name.substring(0, k);
            least = begun.compareTo(least) < 0 ? begun : least;
        }
        return least;
    }

    public int ring(int h) {
        if (no(h)) {
            return BAD;
        }
        int bits = 0;
        for (int other = 0; other < names.size(); other++) {
            bits += ringOf(names.get(h)).equals(ringOf(names.get(other))) ? 1 << other : 0;
        }
        return bits;
    }

    public int way(int a, int b) {
        return no(a) || no(b) ? BAD : tight(inverse(names.get(a)) + names.get(b)).length();
    }

    public int root(int h) {
        if (no(h)) {
            return BAD;
        }
        String whole = names.get(h);
        for (int size = 1; size <= whole.length(); size++) {
            if (whole.matches("(" + whole.substring(0, size) + ")+")) {
                return size;
            }
        }
        return 0;
    }

    public int order(int h) {
        if (no(h)) {
            return BAD;
        }
        List<String> keys = new ArrayList<>();
        for (int other = 0; other < names.size(); other++) {
            keys.add(key(other));
        }
        String own = keys.get(h);
        Collections.sort(keys);
        return keys.indexOf(own);
    }

    private String key(int h) {
        StringBuilder key = new StringBuilder().append((char) ('a' + names.get(h).length()));
        for (char letter : names.get(h).toCharArray()) {
            key.append(TURNS.indexOf(letter));
        }
        return key.append(h).toString();
    }

    private static BigInteger fraction(BigInteger upper, BigInteger lower, int what) {
        return (what == 0 ? upper : lower).divide(upper.gcd(lower));
    }

    public long cold(int a, int b, int p, int what) {
        if (no(a) || no(b) || p < 0 || p > 10 || what < 0 || what > 1) {
            return BAD;
        }
        String meant = names.get(a);
        String taken = names.get(b);
        BigInteger upper = meant.length() == taken.length() ? BigInteger.ONE : BigInteger.ZERO;
        for (int k = 0; k < Math.min(meant.length(), taken.length()); k++) {
            char next = "dlriou".charAt(TURNS.indexOf(meant.charAt(k)));
            int tenths = taken.charAt(k) == meant.charAt(k) ? 10 - p : taken.charAt(k) == next ? p : 0;
            upper = upper.multiply(BigInteger.valueOf(tenths));
        }
        return fraction(upper, BigInteger.TEN.pow(meant.length()), what).longValueExact();
    }

    private static int differences(String a, String b) {
        int places = 0;
        for (int k = 0; k < a.length(); k++) {
            places += a.charAt(k) == b.charAt(k) ? 0 : 1;
        }
        return places;
    }

    public int mixed(int h, int d) {
        if (no(h) || d < 0 || d > 12) {
            return BAD;
        }
        int bits = 0;
        for (int other = 0; other < names.size(); other++) {
            if (names.get(other).length() == names.get(h).length()
                    && differences(names.get(other), names.get(h)) <= d) {
                bits += 1 << other;
            }
        }
        return bits;
    }

    public int newName(int n, int d, int k) {
        if (n < 1 || n > 4 || d < 1 || d > 4 || k < -1 || k >= n) {
            return BAD;
        }
        List<String> rows = new ArrayList<>(List.of(""));
        for (int i = 0; i < n; i++) {
            List<String> longer = new ArrayList<>();
            for (String row : rows) {
                for (char letter : TURNS.toCharArray()) {
                    longer.add(row + letter);
                }
            }
            rows = longer;
        }
        rows.removeIf(row -> tight(row).length() < n
                || names.stream().anyMatch(name -> name.length() == n && differences(name, row) < d));
        if (k == -1) {
            return rows.size();
        }
        return rows.isEmpty() ? NONE : TURNS.indexOf(rows.get(0).charAt(k));
    }

    public int pulls(int what) {
        if (what < 0 || what > 3) {
            return BAD;
        }
        int left = tight(contract).length();
        if (what == 2) {
            return mend();
        }
        return what == 0 ? (left == 0 ? 1 : 0) : what == 1 ? left : (contract.length() - left) / 2;
    }

    private int mend() {
        int fewest = contract.length();
        for (int cut = 0; cut < 1 << contract.length(); cut++) {
            if (Integer.bitCount(cut) >= fewest) {
                continue;
            }
            StringBuilder rest = new StringBuilder();
            for (int k = 0; k < contract.length(); k++) {
                if ((cut >> k & 1) == 0) {
                    rest.append(contract.charAt(k));
                }
            }
            if (tight(rest.toString()).isEmpty()) {
                fewest = Integer.bitCount(cut);
            }
        }
        return fewest;
    }

    /** All rows of herders that are lives, the fewest herders first, then by number. */
    private List<String> allLives() {
        List<String> lives = new ArrayList<>();
        List<String> rows = List.of("");
        for (int size = 1; size <= names.size(); size++) {
            List<String> longer = new ArrayList<>();
            for (String row : rows) {
                for (int h = 0; h < names.size(); h++) {
                    if (row.indexOf('0' + h) < 0) {
                        longer.add(row + h);
                    }
                }
            }
            rows = longer;
            for (String row : rows) {
                StringBuilder joined = new StringBuilder();
                row.chars().forEach(h -> joined.append(names.get(h - '0')));
                if (tight(joined.toString()).equals(tight(contract))) {
                    lives.add(row);
                }
            }
        }
        return lives;
    }

    public int lives(int k) {
        if (k < -1) {
            return BAD;
        }
        List<String> lives = allLives();
        if (k == -1) {
            return lives.size();
        }
        if (lives.isEmpty()) {
            return NONE;
        }
        return k < lives.get(0).length() ? lives.get(0).charAt(k) - '0' : -5;
    }

    public int next() {
        int[] rows = new int[6];
        for (String life : allLives()) {
            life.chars().forEach(h -> rows[h - '0']++);
        }
        int most = Arrays.stream(rows).max().getAsInt();
        for (int h = 0; h < 6; h++) {
            if (most > 0 && rows[h] == most) {
                return h;
            }
        }
        return NONE;
    }

    public int porridge(int p, int n, int k, int what) {
        if (p < 0 || p > 10 || n < 0 || n > 6 || k < 0 || k > 6 || what < 0 || what > 1) {
            return BAD;
        }
        BigInteger upper = eaten("", p, n, k);
        return fraction(upper, BigInteger.TEN.pow(n), what).intValueExact();
    }

    private static BigInteger eaten(String row, int p, int n, int k) {
        if (n == 0) {
            return tight(row).length() == k ? BigInteger.ONE : BigInteger.ZERO;
        }
        return eaten(row + "u", p, n - 1, k).multiply(BigInteger.valueOf(p))
                .add(eaten(row + "d", p, n - 1, k).multiply(BigInteger.valueOf(10 - p)));
    }

    public int share(int h, int n) {
        if (no(h) || n < 1 || n > 99) {
            return BAD;
        }
        Set<String> unlike = new HashSet<>(names);
        return n / unlike.size() / Collections.frequency(names, names.get(h));
    }

    public int rate(int kind, int h) {
        if (kind < 0 || kind > 5 || no(h)) {
            return NO;
        }
        String called = names.get(h);
        int length = called.length();
        int last = length == 0 ? 0 : TURNS.indexOf(called.charAt(length - 1));
        int alike = Collections.frequency(names, called);
        trace += new long[] {1, 11, 101, 1011, 10101, 100001}[kind];
        return new int[] {length, length + last, length - alike, 2 * (length + last),
            length - alike + h, length + root(h)}[kind];
    }

    public int keep(int image) {
        if (image < 0 || image > 1) {
            return BAD;
        }
        images.put(image, image());
        return turns();
    }

    public int back(int image) {
        if (image < 0 || image > 1) {
            return BAD;
        }
        if (!images.containsKey(image)) {
            return STATE;
        }
        restore(images.get(image));
        past.clear();
        return turns();
    }

    public int count(int what) {
        return what == 0 ? names.size() : what == 1 ? text.length() : BAD;
    }

    public long trace() {
        return trace;
    }
}
