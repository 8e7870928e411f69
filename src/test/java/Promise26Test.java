/** Promise 26: porridge. */
public final class Promise26Test {
    public static void main(String[] args) {
        Trial.runAll(Promise26Test.class);
    }

    private static void porridge(String numbers, long upper, long lower) {
        Scene.fresh().answers("porridge " + numbers + " 0", upper).answers("porridge " + numbers + " 1", lower);
    }

    private static void bad(String... numbers) {
        for (Scene scene : Scene.all()) {
            for (String row : numbers) {
                scene.refuses(Scene.BAD, "porridge " + row);
            }
        }
    }

    /** "p (0 .. 10)": by 0 each TURN is d. */
    static void p26Of0EachTurnIsD() {
        porridge("0 6 6", 1, 1);
        porridge("0 6 4", 0, 1);
        porridge("0 1 1", 1, 1);
    }

    static void p26Below0IsBad() {
        bad("-1 2 2 0", "-1 0 0 1", Scene.MIN + " 2 2 0");
    }

    /** By 10 each TURN is u. */
    static void p26Of10EachTurnIsU() {
        porridge("10 6 6", 1, 1);
        porridge("10 6 4", 0, 1);
        porridge("10 1 1", 1, 1);
    }

    static void p26Above10IsBad() {
        bad("11 2 2 0", "11 0 0 1", Scene.MAX + " 2 2 0");
    }

    /** "n (0 .. 6) TURNS": of none, none are left. */
    static void p26NoTurns() {
        for (int p = 0; p <= 10; p++) {
            porridge(p + " 0 0", 1, 1);
            porridge(p + " 0 1", 0, 1);
            porridge(p + " 0 6", 0, 1);
        }
    }

    static void p26LessThanNoTurnsIsBad() {
        bad("5 -1 0 0", "5 -1 1 1", "5 " + Scene.MIN + " 0 0");
    }

    static void p26SixTurns() {
        porridge("5 6 0", 5, 16);
        porridge("5 6 2", 15, 32);
        porridge("5 6 4", 3, 16);
        porridge("5 6 6", 1, 32);
    }

    static void p26MoreThanSixTurnsAreBad() {
        bad("5 7 0 0", "5 7 1 1", "5 " + Scene.MAX + " 0 0");
    }

    /** "just k (0 .. 6) TURNS" */
    static void p26NoneIsLeft() {
        porridge("3 2 0", 21, 50);
        porridge("3 1 0", 0, 1);
    }

    static void p26LessThanNoneLeftIsBad() {
        bad("5 2 -1 0", "5 2 -2 1", "5 2 " + Scene.MIN + " 0");
    }

    static void p26SixAreLeft() {
        porridge("1 6 6", 265721, 500000);
        porridge("5 5 6", 0, 1);
    }

    static void p26MoreThanSixLeftAreBad() {
        bad("5 6 7 0", "5 0 7 1", "5 6 " + Scene.MAX + " 0");
    }

    /** More are left than were tied: that does not come to be, but may be asked. */
    static void p26MoreLeftThanTied() {
        porridge("4 3 4", 0, 1);
        porridge("4 3 5", 0, 1);
        porridge("4 3 6", 0, 1);
    }

    /** Two go at once: of an even number an odd one is never left. */
    static void p26OddOfEven() {
        porridge("4 6 5", 0, 1);
        porridge("4 5 4", 0, 1);
        porridge("4 2 1", 0, 1);
        porridge("4 1 0", 0, 1);
    }

    /** "upper (what = 0), lower number (1)" */
    static void p26OnlyUpperAndLowerCanBeAsked() {
        bad("5 2 2 -1", "5 2 2 2", "5 2 2 " + Scene.MIN, "5 2 2 " + Scene.MAX);
    }

    /** "in least terms" */
    static void p26InLeastTerms() {
        porridge("5 1 1", 1, 1);
        porridge("5 2 0", 1, 2);
        porridge("2 2 0", 8, 25);
        porridge("1 5 3", 657, 2000);
        porridge("3 3 1", 63, 100);
    }

    /** All that may be left comes to one whole. */
    static void p26AllThatMayBeLeft() {
        KnotNames x = new KnotNames();
        for (int p = 0; p <= 10; p++) {
            for (int n = 0; n <= 6; n++) {
                long millionths = 0;
                for (int k = 0; k <= 6; k++) {
                    millionths += 1000000L * x.porridge(p, n, k, 0) / x.porridge(p, n, k, 1);
                }
                Trial.due("porridge by " + p + " of " + n, millionths, 1000000L);
            }
            x = new KnotNames();
        }
    }

    static void p26TheCampDoesNotMatter() {
        Scene.all().forEach(scene -> scene.asks("porridge 3 2 2 0", 29).asks("porridge 3 2 2 1", 50));
    }
}
