/** Promise 19: order. */
public final class Promise19Test {
    public static void main(String[] args) {
        Trial.runAll(Promise19Test.class);
    }

    private static void orders(Scene scene, int... due) {
        for (int h = 0; h < due.length; h++) {
            scene.asks("order " + h, due[h]);
        }
    }

    static void p19HerdersBelow0AreBad() {
        Scene.all().forEach(scene -> scene.refuses(Scene.BAD, "order -1", "order " + Scene.MIN));
    }

    static void p19HerdersBehindTheLastAreBad() {
        Scene.rich().refuses(Scene.BAD, "order 5", "order 6");
        Scene.full().refuses(Scene.BAD, "order 6", "order " + Scene.MAX);
    }

    /** "(0: the first ..)" */
    static void p19OneAloneIsTheFirst() {
        orders(Scene.told("h;"), 0);
        orders(Scene.told("hoooooooo;"), 0);
    }

    static void p19TheLastOfSixIs5() {
        orders(Scene.full(), 0, 1, 2, 3, 4, 5);
        orders(Scene.told("ho;hi;hr;hl;hd;hu;"), 5, 4, 3, 2, 1, 0);
    }

    /** "by length, then by TURNS" */
    static void p19LengthComesBeforeTurns() {
        orders(Scene.told("huu;ho;"), 1, 0);
        orders(Scene.told("huuuuuuuu;hooooooo;"), 1, 0);
    }

    /** "none: he has no NAME": it is the shortest. */
    static void p19NoNameComesFirst() {
        orders(Scene.told("hu;h;"), 1, 0);
    }

    /** "those ALIKE by number" */
    static void p19ThoseAlikeByNumber() {
        orders(Scene.told("h;h;h;h;h;h;"), 0, 1, 2, 3, 4, 5);
        orders(Scene.told("hl;hu;hl;hu;hl;hu;"), 3, 0, 4, 1, 5, 2);
    }

    static void p19TheTwelfthTurnCounts() {
        orders(Scene.told("huuuuuuuu;huuuuuuuu;").tied(0, "uuul").tied(1, "uuuu"), 1, 0);
        orders(Scene.told("huuuuuuuu;huuuuuuuu;").tied(0, "uuuo").tied(1, "uuui"), 1, 0);
    }

    static void p19TheFirstTurnCountsMost() {
        orders(Scene.told("hlu;hul;"), 1, 0);
        orders(Scene.told("hdll;hulo;"), 1, 0);
    }
}
