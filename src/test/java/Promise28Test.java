/** Promise 28: rate. */
public final class Promise28Test {
    public static void main(String[] args) {
        Trial.runAll(Promise28Test.class);
    }

    private static void rate(Scene scene, int h, long... due) {
        for (int kind = 0; kind < 6; kind++) {
            scene.answers("rate " + kind + " " + h, due[kind]);
        }
    }

    /** "0 HERDER; .. 5 WIDOW" */
    static void p28TheSixKinds() {
        rate(Scene.told("hl;hulo;"), 1, 3, 3 + 5, 3 - 1, 2 * (3 + 5), 3 - 1 + 1, 3 + 3);
    }

    static void p28KindsBelow0AreRefused() {
        Scene.all().forEach(scene -> scene.refuses(Scene.NO, "rate -1 0", "rate " + Scene.MIN + " 0"));
    }

    static void p28KindsAbove5AreRefused() {
        Scene.all().forEach(scene -> scene.refuses(Scene.NO, "rate 6 0", "rate " + Scene.MAX + " 0"));
    }

    static void p28HerdersBelow0AreRefused() {
        for (int kind = 0; kind < 6; kind++) {
            Scene.rich().refuses(Scene.NO, "rate " + kind + " -1", "rate " + kind + " " + Scene.MIN);
        }
    }

    static void p28HerdersBehindTheLastAreRefused() {
        for (int kind = 0; kind < 6; kind++) {
            Scene.rich().refuses(Scene.NO, "rate " + kind + " 5", "rate " + kind + " 6");
            Scene.full().refuses(Scene.NO, "rate " + kind + " 6", "rate " + kind + " " + Scene.MAX);
        }
    }

    static void p28BothNumbersWrongAreRefused() {
        Scene.all().forEach(scene -> scene.refuses(Scene.NO, "rate -1 -1", "rate 6 6"));
    }

    static void p28TheFirstAndTheLastHerder() {
        rate(Scene.full(), 0, 12, 12, 11, 24, 11, 13);
        rate(Scene.full(), 5, 12, 17, 11, 34, 16, 13);
    }

    /** "its last TURN, 0 without" */
    static void p28WithoutANameTheLastTurnIs0() {
        Scene scene = Scene.told("hu;h;");
        scene.answers("rate 1 1", 0).answers("rate 3 1", 0);
        scene.then("ties 1 5", "loosens 1").answers("rate 1 1", 0).answers("rate 3 1", 0);
    }

    /** "(.. 0: no NAME)" of a WIDOW's ROOT. */
    static void p28WithoutANameTheRootIs0() {
        Scene.told("hu;h;").answers("rate 5 1", 0);
    }

    /** "where a number may be below 0" */
    static void p28ALiarsRateMayBeBelow0() {
        Scene six = Scene.told("h;h;h;h;h;h;");
        six.answers("rate 2 0", -6).answers("rate 2 5", -6).answers("rate 4 0", -6).answers("rate 4 5", -1);
        Scene.told("hu;h;").answers("rate 2 1", -1).answers("rate 2 0", 0);
        Scene.told("hu;h;h;").answers("rate 4 1", -1).answers("rate 4 2", 0);
    }

    static void p28TurnsOfTheLowestAndTheHighestNumber() {
        Scene.told("hu;ho;").answers("rate 1 0", 1).answers("rate 1 1", 6).answers("rate 3 0", 2)
                .answers("rate 3 1", 12);
    }

    /** "12 TURNS at most" */
    static void p28TheHighestRates() {
        Scene scene = Scene.told("h;h;h;h;h;huuuuuuuu;").tied(5, "uuuo");
        rate(scene, 5, 12, 17, 11, 34, 16, 24);
    }

    /** "(numbers in brackets are added to THE TRACE ..)": not by what is refused. */
    static void p28ARefusedRateLeavesTheTrace() {
        Scene scene = Scene.told("hu;").then("rate 0 0", "rate 6 0", "rate -1 0", "rate 3 1", "rate 5 -1");
        scene.answers("trace", 1);
    }

    static void p28OnlyTheTraceChanges() {
        for (int kind = 0; kind < 6; kind++) {
            Scene rated = Scene.rich().then("rate " + kind + " 0");
            rated.reads("ul ri  ul  |ui").answers("now 3", 5).answers("count 1", 3).answers("back 0", 8);
        }
    }
}
