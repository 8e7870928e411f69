/** Promise 12: adds. */
public final class Promise12Test {
    public static void main(String[] args) {
        Trial.runAll(Promise12Test.class);
    }

    static void p12Turn0IsTheLowest() {
        Scene.fresh().answers("adds 0", 1).then("adds 0").reads("|u");
    }

    static void p12TurnsBelow0AreBad() {
        Scene.all().forEach(scene -> scene.refuses(Scene.BAD, "adds -1", "adds " + Scene.MIN));
    }

    static void p12Turn5IsTheHighest() {
        Scene.fresh().answers("adds 5", 1).then("adds 5").reads("|o");
    }

    static void p12TurnsAbove5AreBad() {
        Scene.all().forEach(scene -> scene.refuses(Scene.BAD, "adds 6", "adds " + Scene.MAX));
    }

    /** "12 TURNS at most" */
    static void p12TheTwelfthTurn() {
        Scene.fresh().added("uuuuuuuuuuu").answers("adds 3", 12).then("adds 3").reads("|uuuuuuuuuuur");
    }

    static void p12AThirteenthTurnIsFull() {
        Scene twelve = Scene.rich().then("tears").added("uliulidrodro");
        twelve.refuses(Scene.FULL, "adds 0", "adds 1", "adds 2", "adds 3", "adds 4", "adds 5");
        Scene.full().refuses(Scene.FULL, "adds 0", "adds 5");
    }

    /** "never DRAWN TIGHT of itself": a thirteenth that undoes the twelfth is FULL, too. */
    static void p12AThirteenthThatUndoesIsFull() {
        Scene.fresh().added("uuuuuuuuuuuu").refuses(Scene.FULL, "adds 1");
    }

    static void p12ATurnThatUndoesTheLastIsAdded() {
        Scene.fresh().added("u").answers("adds 1", 2).then("adds 1").reads("|ud").answers("adds 0", 3);
    }

    /** "the first of these: BAD .., FULL" */
    static void p12OfAFullContractABadTurnIsBad() {
        Scene.fresh().added("uuuuuuuuuuuu").refuses(Scene.BAD, "adds 6", "adds -1");
    }

    static void p12ATornContractTakesTwelveAgain() {
        Scene.fresh().times(12, "adds 0").then("tears").times(11, "adds 2").answers("adds 2", 12).then("adds 2")
                .answers("adds 2", Scene.FULL);
    }

    static void p12ItCanBeUndone() {
        Scene.rich().then("adds 5").answers("now 3", 6).then("undo").isSeenAs(Scene.rich());
    }
}
