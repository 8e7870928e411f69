/** Promise 11: unties. */
public final class Promise11Test {
    public static void main(String[] args) {
        Trial.runAll(Promise11Test.class);
    }

    static void p11TheFirstAndTheLastHerder() {
        Scene.told("hu;hl;hio;hii;").answers("unties 0", 1).answers("unties 3", 2).then("unties 0", "unties 3")
                .reads(" l   |");
        Scene.full().answers("unties 5", 12);
    }

    static void p11HerdersBelow0AreBad() {
        Scene.all().forEach(scene -> scene.refuses(Scene.BAD, "unties -1", "unties " + Scene.MIN));
    }

    static void p11HerdersBehindTheLastAreBad() {
        Scene.rich().refuses(Scene.BAD, "unties 5", "unties 6");
        Scene.full().refuses(Scene.BAD, "unties 6", "unties " + Scene.MAX);
    }

    /** Only BAD is told: no NAME is no refusal, so it is a deed that can be UNDONE. */
    static void p11NoNameHadNoTurns() {
        Scene.rich().answers("unties 2", 0).then("unties 2").answers("now 3", 6).then("undo").isSeenAs(Scene.rich());
    }

    static void p11OneTurn() {
        Scene.told("ho;").answers("unties 0", 1).then("unties 0").reads(" |").answers("unties 0", 0);
    }

    /** "12 TURNS at most" */
    static void p11TwelveTurns() {
        Scene.full().answers("unties 0", 12).then("unties 0").answers("name 0 -1", 0).answers("name 0 0", Scene.BAD)
                .answers("ties 0 3", 1).answers("now 0", 0b111110).answers("now 2", 60);
    }

    static void p11ItCanBeUndone() {
        Scene.rich().then("unties 0").answers("now 3", 6).then("undo").isSeenAs(Scene.rich());
    }
}
