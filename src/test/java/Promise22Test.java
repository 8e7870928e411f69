/** Promise 22: newName. */
public final class Promise22Test {
    private static final Scene ALL_OF_ONE_TURN = Scene.told("hu;hd;hl;hr;hi;ho;");
    private static final Scene FIVE_OF_FOUR = Scene.told("huuuu;hdddd;hllll;hrrrr;hiiii;");

    public static void main(String[] args) {
        Trial.runAll(Promise22Test.class);
    }

    private static void first(Scene scene, String numbers, String due) {
        for (int k = 0; k < due.length(); k++) {
            scene.asks("newName " + numbers + " " + k, Check.turn(due.charAt(k)));
        }
    }

    /** "n (1 .. 4) TURNS" */
    static void p22OneTurnIsTheFewest() {
        Scene.fresh().asks("newName 1 1 -1", 6).asks("newName 1 1 0", 0);
    }

    static void p22FewerThanOneTurnIsBad() {
        Scene.all().forEach(scene -> scene.refuses(Scene.BAD, "newName 0 1 -1", "newName 0 1 0", "newName -1 1 -1",
                "newName " + Scene.MIN + " 1 -1"));
    }

    static void p22FourTurnsAreTheMost() {
        Scene.fresh().asks("newName 4 1 -1", 750).asks("newName 4 1 3", 0);
        Scene.told("huuuu;").asks("newName 4 1 -1", 749);
        first(Scene.told("huuuu;"), "4 1", "uuul");
    }

    static void p22MoreThanFourTurnsAreBad() {
        Scene.all().forEach(scene -> scene.refuses(Scene.BAD, "newName 5 1 -1", "newName 5 1 0", "newName 12 1 -1",
                "newName " + Scene.MAX + " 1 -1"));
    }

    /** "d (1 .. 4)" */
    static void p22OnePlaceIsTheLeast() {
        Scene.told("hu;").asks("newName 1 1 -1", 5).asks("newName 1 1 0", 1);
    }

    static void p22LessThanOnePlaceIsBad() {
        Scene.all().forEach(scene -> scene.refuses(Scene.BAD, "newName 1 0 -1", "newName 4 0 0", "newName 1 -1 -1",
                "newName 1 " + Scene.MIN + " -1"));
    }

    static void p22FourPlacesAreTheMost() {
        first(Scene.told("huuuu;"), "4 4", "dddd");
        Scene.told("hu;").asks("newName 1 4 -1", 0).asks("newName 1 4 0", Scene.NONE);
    }

    static void p22MoreThanFourPlacesAreBad() {
        Scene.all().forEach(scene -> scene.refuses(Scene.BAD, "newName 1 5 -1", "newName 4 5 0", "newName 1 12 -1",
                "newName 4 " + Scene.MAX + " -1"));
    }

    /** "how many (k = -1)" */
    static void p22NumbersBelowMinus1AreBad() {
        Scene.all().forEach(scene -> scene.refuses(Scene.BAD, "newName 1 1 -2", "newName 4 4 -2",
                "newName 4 4 " + Scene.MIN));
    }

    /** "the k-th TURN of the first (0 .. n - 1)" */
    static void p22TheLastTurnAndOneMore() {
        for (int n = 1; n <= 4; n++) {
            Scene.fresh().asks("newName " + n + " 1 " + (n - 1), 0).refuses(Scene.BAD, "newName " + n + " 1 " + n,
                    "newName " + n + " 1 4", "newName " + n + " 1 " + Scene.MAX);
        }
    }

    /** "NONE" */
    static void p22WhereThereIsNone() {
        ALL_OF_ONE_TURN.asks("newName 1 1 -1", 0).asks("newName 1 1 0", Scene.NONE);
        Scene none = FIVE_OF_FOUR.typed("huuuu;hdddd;hllll;hrrrr;hiiii;hoooo;").then("camp");
        none.asks("newName 4 4 -1", 0);
        for (int k = 0; k < 4; k++) {
            none.asks("newName 4 4 " + k, Scene.NONE);
        }
    }

    /** A number that is not as told is BAD where there is none, too. */
    static void p22WhereThereIsNoneAWrongNumberIsBad() {
        ALL_OF_ONE_TURN.refuses(Scene.BAD, "newName 1 1 1", "newName 1 1 -2", "newName 1 5 0", "newName 1 0 0");
    }

    /** What was found before is not there where none is. */
    static void p22NothingIsLeftOfAnEarlierAnswer() {
        Scene scene = Scene.told("hu;hd;hl;hr;hi;huu;");
        scene.then("newName 2 1 -1", "newName 2 1 0").answers("newName 2 3 0", Scene.NONE);
        scene.then("newName 2 1 0", "ties 5 0", "unties 5", "ties 5 5").answers("newName 1 1 0", Scene.NONE);
    }

    static void p22JustOneIsLeft() {
        FIVE_OF_FOUR.asks("newName 4 4 -1", 1);
        first(FIVE_OF_FOUR, "4 4", "oooo");
        Scene one = Scene.told("hu;hd;hl;hr;hi;");
        one.asks("newName 1 1 -1", 1).asks("newName 1 1 0", 5);
    }

    /** "differs in d places at least": just in d, and in one less. */
    static void p22JustDPlacesAndOneLess() {
        Scene scene = Scene.told("huuu;");
        first(scene, "3 1", "uul");
        // uul and ulu differ in one place alone
        first(scene, "3 2", "uld");
        first(scene, "3 3", "ddd");
        // of the rows without u, lr, rl, io and oi are not tight, in front, behind or (lrl ..) at both places
        scene.asks("newName 3 3 -1", 5 * 5 * 5 - 4 * 5 - 4 * 5 + 4);
    }

    /** More places than it has TURNS: none, if there is a NAME of n TURNS; all, if there is not. */
    static void p22MorePlacesThanTurns() {
        Scene.told("huu;").asks("newName 2 3 -1", 0).asks("newName 2 3 1", Scene.NONE);
        Scene.told("huuu;hu;h;").asks("newName 2 3 -1", 30).asks("newName 2 4 1", 0);
    }

    /** "from each NAME of n TURNS": those of other lengths do not matter. */
    static void p22OnlyNamesOfNTurnsMatter() {
        Scene.told("hu;huuu;huuuuu;h;").asks("newName 2 1 -1", 30).asks("newName 2 1 1", 0);
        Scene.full().asks("newName 4 4 -1", 750).asks("newName 1 1 -1", 6);
    }

    /** "that is DRAWN TIGHT" */
    static void p22OnlyTightRowsCount() {
        Scene.fresh().asks("newName 2 1 -1", 30).asks("newName 3 1 -1", 150);
        first(Scene.told("huu;"), "2 1", "ul");
        first(Scene.told("huuu;huul;"), "3 1", "uur");
    }
}
