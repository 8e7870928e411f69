/** Promise 6: contract. */
public final class Promise06Test {
    public static void main(String[] args) {
        Trial.runAll(Promise06Test.class);
    }

    /** "THE CONTRACT is a ROW (.. none at first ..)" */
    static void p06NoneHasNoTurns() {
        Scene.fresh().asks("contract -1", 0).refuses(Scene.BAD, "contract 0", "contract 1");
        Scene.told("hul;").asks("contract -1", 0).refuses(Scene.BAD, "contract 0");
    }

    /** "How many TURNS THE CONTRACT has (k = -1)" */
    static void p06Minus1AsksHowMany() {
        Scene.rich().asks("contract -1", 2);
        Scene.fresh().added("o").asks("contract -1", 1);
    }

    static void p06NumbersBelowMinus1AreBad() {
        Scene.all().forEach(scene -> scene.refuses(Scene.BAD, "contract -2", "contract " + Scene.MIN));
    }

    static void p06Turn0IsTheFirst() {
        Scene.fresh().added("lo").asks("contract 0", 2);
    }

    static void p06TheLastTurnAndOneMore() {
        Scene.fresh().added("lo").asks("contract 1", 5).refuses(Scene.BAD, "contract 2", "contract " + Scene.MAX);
    }

    /** "12 TURNS at most" */
    static void p06TheTwelfthTurnAndOneMore() {
        Scene.full().asks("contract -1", 12).asks("contract 11", 5).refuses(Scene.BAD, "contract 12");
        Scene.fresh().added("uuuuuuuuuuud").asks("contract 10", 0).asks("contract 11", 1)
                .refuses(Scene.BAD, "contract 12");
    }

    /** "never DRAWN TIGHT of itself" */
    static void p06ItIsNotDrawnTight() {
        Scene.fresh().added("udlrio").asks("contract -1", 6).reads("|udlrio");
    }

    static void p06NoTurnIsLeftBehindTheEnd() {
        Scene.fresh().added("uli").then("undo").answers("contract 2", Scene.BAD).then("tears")
                .answers("contract 0", Scene.BAD);
    }
}
