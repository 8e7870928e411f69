/** Counts the answers that are not the ones due, and what the tests share. */
final class Check {
    static final String TURNS = "udlrio";

    private int wrong = 0;

    void due(String call, long got, long want) {
        if (got != want) {
            wrong++;
            System.out.println(call + " answered " + got + ", due is " + want);
        }
    }

    void due(String call, String got, String want) {
        if (!got.equals(want)) {
            wrong++;
            System.out.println(call + " answered '" + got + "', due is '" + want + "'");
        }
    }

    void end() {
        System.out.println(wrong == 0 ? "all answers are as due" : wrong + " answers are not as due");
        if (wrong != 0) {
            System.exit(1);
        }
    }

    static void type(KnotNames x, String text) {
        for (char letter : text.toCharArray()) {
            x.type(letter);
        }
    }

    /** A new object whose herders are told by a text. */
    static KnotNames told(String text) {
        KnotNames x = new KnotNames();
        type(x, text);
        if (x.camp() < 0) {
            throw new IllegalStateException("the text has a fault: " + text);
        }
        return x;
    }

    static int turn(char letter) {
        return TURNS.indexOf(letter);
    }

    static void adds(KnotNames x, String turns) {
        for (char letter : turns.toCharArray()) {
            x.adds(turn(letter));
        }
    }

    static void ties(KnotNames x, int h, String turns) {
        for (char letter : turns.toCharArray()) {
            x.ties(h, turn(letter));
        }
    }

    static String name(KnotNames x, int h) {
        StringBuilder letters = new StringBuilder();
        for (int k = 0; k < x.name(h, -1); k++) {
            letters.append(TURNS.charAt(x.name(h, k)));
        }
        return letters.toString();
    }

    static String contract(KnotNames x) {
        StringBuilder letters = new StringBuilder();
        for (int k = 0; k < x.contract(-1); k++) {
            letters.append(TURNS.charAt(x.contract(k)));
        }
        return letters.toString();
    }

    /** All names and the contract, to see that nothing has changed. */
    static String all(KnotNames x) {
        StringBuilder all = new StringBuilder();
        for (int h = 0; h < x.count(0); h++) {
            all.append(name(x, h)).append(' ');
        }
        return all.append('|').append(contract(x)).toString();
    }
}
