/** Promise 13: tears. */
public final class Promise13Test {
    public static void main(String[] args) {
        Trial.runAll(Promise13Test.class);
    }

    /** No refusal is told: of no TURNS, too, it is a deed that can be UNDONE. */
    static void p13NoneHadNoTurns() {
        Scene.fresh().answers("tears", 0).then("tears").answers("contract -1", 0).answers("now 3", 1)
                .then("undo").isSeenAs(Scene.fresh());
    }

    static void p13OneTurn() {
        Scene.fresh().added("o").answers("tears", 1).then("tears").reads("|").answers("tears", 0);
    }

    /** "12 TURNS at most" */
    static void p13TwelveTurns() {
        Scene.full().answers("tears", 12).then("tears").answers("contract -1", 0).answers("contract 0", Scene.BAD)
                .answers("adds 2", 1);
    }

    /** The TURNS that stand are told, not those that are left DRAWN TIGHT. */
    static void p13TurnsThatUndoOneAnother() {
        Scene.fresh().added("udud").answers("tears", 4);
    }

    static void p13NamesStay() {
        Scene.rich().then("tears").reads("ul ri  ul  |");
    }

    static void p13ItCanBeUndone() {
        Scene.rich().then("tears").answers("now 3", 6).then("undo").isSeenAs(Scene.rich());
    }
}
