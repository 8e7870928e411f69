/** Promise 8: ties. */
public final class Promise08Test {
    public static void main(String[] args) {
        Trial.runAll(Promise08Test.class);
    }

    /** "TURNS are u (0), .., o (5)" */
    static void p08Turn0IsTheLowest() {
        Scene.told("hl;").answers("ties 0 0", 2).then("ties 0 0").reads("lu |");
    }

    static void p08TurnsBelow0AreBad() {
        Scene.rich().refuses(Scene.BAD, "ties 0 -1", "ties 2 -1", "ties 0 " + Scene.MIN);
    }

    static void p08Turn5IsTheHighest() {
        Scene.told("hl;").answers("ties 0 5", 2).then("ties 0 5").reads("lo |");
    }

    static void p08TurnsAbove5AreBad() {
        Scene.rich().refuses(Scene.BAD, "ties 0 6", "ties 2 6", "ties 0 " + Scene.MAX);
    }

    static void p08HerdersBelow0AreBad() {
        Scene.all().forEach(scene -> scene.refuses(Scene.BAD, "ties -1 0", "ties " + Scene.MIN + " 0"));
    }

    static void p08TheFirstAndTheLastHerder() {
        Scene.told("hu;hl;hi;").answers("ties 0 2", 2).answers("ties 2 2", 2).then("ties 0 2", "ties 2 2")
                .reads("ul l il |");
        Scene.told("h;h;h;h;h;h;").then("ties 5 3").reads("     r |");
    }

    static void p08HerdersBehindTheLastAreBad() {
        Scene.rich().refuses(Scene.BAD, "ties 5 0", "ties 6 0");
        Scene.full().refuses(Scene.BAD, "ties 6 0", "ties 6 1", "ties " + Scene.MAX + " 0");
    }

    static void p08NoNameGetsItsFirstTurn() {
        Scene.told("h;").answers("ties 0 4", 1).then("ties 0 4").reads("i |").answers("now 0", 1);
    }

    /** "(it is DRAWN TIGHT then)": the last of its TURNS may go. */
    static void p08TheOnlyTurnIsUndone() {
        Scene.told("hi;").answers("ties 0 5", 0).then("ties 0 5").reads(" |").answers("now 0", 0);
    }

    static void p08EachTurnIsUndoneByOneAlone() {
        String pairs = "ud du lr rl io oi";
        for (char first : Check.TURNS.toCharArray()) {
            for (char second : Check.TURNS.toCharArray()) {
                boolean undoes = pairs.contains("" + first + second);
                Scene.told("h" + first + ";").answers("ties 0 " + Check.turn(second), undoes ? 0 : 2);
            }
        }
    }

    /** "12 TURNS at most" */
    static void p08TheTwelfthTurn() {
        Scene eleven = Scene.told("huuuuuuuu;").tied(0, "uuu");
        eleven.answers("ties 0 0", 12).answers("ties 0 5", 12).answers("ties 0 1", 10);
        eleven.then("ties 0 2").reads("uuuuuuuuuuul |");
    }

    /** "FULL: 13" */
    static void p08AThirteenthTurnIsFull() {
        Scene twelve = Scene.told("huuuuuuuu;").tied(0, "uuul");
        twelve.refuses(Scene.FULL, "ties 0 0", "ties 0 1", "ties 0 2", "ties 0 4", "ties 0 5");
        Scene.full().refuses(Scene.FULL, "ties 0 0", "ties 5 5", "ties 5 0");
    }

    /** It is DRAWN TIGHT before it is counted. */
    static void p08AThirteenthThatUndoesTheTwelfthIsNotFull() {
        Scene.told("huuuuuuuu;").tied(0, "uuul").answers("ties 0 3", 11).then("ties 0 3").reads("uuuuuuuuuuu |");
        Scene.full().answers("ties 0 1", 11).answers("ties 5 4", 11);
    }

    /** "the first of these: BAD .., FULL" */
    static void p08OfAFullNameABadTurnIsBad() {
        Scene.full().refuses(Scene.BAD, "ties 0 6", "ties 0 -1");
    }

    static void p08ItCanBeUndone() {
        Scene.rich().then("ties 2 0").answers("now 3", 6).then("undo").isSeenAs(Scene.rich());
    }

    static void p08ThatUndoesATurnCanBeUndone() {
        Scene.told("hul;").then("ties 0 3").answers("now 3", 1).then("undo").isSeenAs(Scene.told("hul;"));
    }
}
