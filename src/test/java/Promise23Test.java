/** Promise 23: pulls. */
public final class Promise23Test {
    public static void main(String[] args) {
        Trial.runAll(Promise23Test.class);
    }

    private static void pulls(String contract, int out, int left, int mend, int moves) {
        Scene.fresh().added(contract).asks("pulls 0", out).asks("pulls 1", left).asks("pulls 2", mend)
                .asks("pulls 3", moves).reads("|" + contract);
    }

    static void p23NumbersBelow0AreBad() {
        Scene.all().forEach(scene -> scene.refuses(Scene.BAD, "pulls -1", "pulls " + Scene.MIN));
    }

    static void p23NumbersAbove3AreBad() {
        Scene.all().forEach(scene -> scene.refuses(Scene.BAD, "pulls 4", "pulls " + Scene.MAX));
    }

    /** "THE CONTRACT, DRAWN TIGHT, has no TURNS" */
    static void p23NoTurnsPullOut() {
        pulls("", 1, 0, 0, 0);
    }

    static void p23OneTurnDoesNot() {
        pulls("u", 0, 1, 1, 0);
        pulls("o", 0, 1, 1, 0);
    }

    static void p23TwoTurns() {
        pulls("ud", 1, 0, 0, 1);
        pulls("oi", 1, 0, 0, 1);
        pulls("uu", 0, 2, 2, 0);
        pulls("dl", 0, 2, 2, 0);
    }

    static void p23OneIsLeft() {
        pulls("udu", 0, 1, 1, 1);
        pulls("lud", 0, 1, 1, 1);
        pulls("udl", 0, 1, 1, 1);
    }

    /** A TURN goes with one that undoes it, not with two. */
    static void p23ATurnUndoesOneAlone() {
        pulls("udd", 0, 1, 1, 1);
        pulls("uud", 0, 1, 1, 1);
        pulls("uddddddddddd", 0, 10, 10, 1);
        pulls("uuuuuuuuuuud", 0, 10, 10, 1);
        pulls("uldld", 0, 5, 3, 0);
    }

    /** "12 TURNS at most" */
    static void p23TwelveTurnsPullOut() {
        pulls("uuuuuudddddd", 1, 0, 0, 6);
        pulls("udlrioudlrio", 1, 0, 0, 6);
        pulls("ulioulrdiord", 1, 0, 0, 6);
    }

    static void p23TwelveTurnsStay() {
        pulls("uuuuuuuuuuuu", 0, 12, 12, 0);
        pulls("uliulidrodro", 0, 12, 6, 0);
    }

    /** "the fewest TURNS of it to be cut out": the first and the twelfth may stay. */
    static void p23TheEndsPullOutWhenTheRestIsCut() {
        pulls("ulllllllllld", 0, 12, 10, 0);
        pulls("uiiiiiiiiild", 0, 12, 10, 0);
        pulls("lllllllllluu", 0, 12, 12, 0);
    }

    static void p23TornUpItPullsOut() {
        Scene.fresh().added("ul").then("tears").asks("pulls 0", 1).asks("pulls 1", 0).asks("pulls 2", 0)
                .asks("pulls 3", 0);
    }
}
