import java.util.HashMap;
import java.util.Map;

/** A call with its numbers, told as a text: "ties 0 2". */
final class Call {
    private static final Map<String, Call> KNOWN = new HashMap<>();

    private final String method;
    private final int[] numbers;

    private Call(String text) {
        String[] words = text.split(" ");
        method = words[0];
        numbers = new int[words.length - 1];
        for (int i = 0; i < numbers.length; i++) {
            numbers[i] = Integer.parseInt(words[i + 1]);
        }
    }

    static long make(KnotNames x, String text) {
        return KNOWN.computeIfAbsent(text, Call::new).make(x);
    }

    private long make(KnotNames x) {
        switch (numbers.length) {
            case 0:
                return withNone(x);
            case 1:
                return withOne(x, numbers[0]);
            case 2:
                return withTwo(x, numbers[0], numbers[1]);
            default:
                return withMore(x);
        }
    }

    private long withNone(KnotNames x) {
        switch (method) {
            case "clear": return x.clear();
            case "camp": return x.camp();
            case "tears": return x.tears();
            case "undo": return x.undo();
            case "next": return x.next();
            case "trace": return x.trace();
            default: throw unknown();
        }
    }

    private long withOne(KnotNames x, int a) {
        switch (method) {
            case "type": return x.type(a);
            case "contract": return x.contract(a);
            case "now": return x.now(a);
            case "loosens": return x.loosens(a);
            case "unties": return x.unties(a);
            case "adds": return x.adds(a);
            case "alike": return x.alike(a);
            case "ring": return x.ring(a);
            case "root": return x.root(a);
            case "order": return x.order(a);
            case "pulls": return x.pulls(a);
            case "lives": return x.lives(a);
            case "keep": return x.keep(a);
            case "back": return x.back(a);
            case "count": return x.count(a);
            default: throw unknown();
        }
    }

    private long withTwo(KnotNames x, int a, int b) {
        switch (method) {
            case "name": return x.name(a, b);
            case "ties": return x.ties(a, b);
            case "bends": return x.bends(a, b);
            case "way": return x.way(a, b);
            case "mixed": return x.mixed(a, b);
            case "share": return x.share(a, b);
            case "rate": return x.rate(a, b);
            default: throw unknown();
        }
    }

    private long withMore(KnotNames x) {
        switch (method) {
            case "newName": return x.newName(numbers[0], numbers[1], numbers[2]);
            case "cold": return x.cold(numbers[0], numbers[1], numbers[2], numbers[3]);
            case "porridge": return x.porridge(numbers[0], numbers[1], numbers[2], numbers[3]);
            default: throw unknown();
        }
    }

    private IllegalStateException unknown() {
        return new IllegalStateException("no such call: " + method + " with " + numbers.length + " numbers");
    }
}
