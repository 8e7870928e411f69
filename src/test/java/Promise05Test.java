/** Promise 5: name. */
public final class Promise05Test {
    public static void main(String[] args) {
        Trial.runAll(Promise05Test.class);
    }

    /** "HERDERS 0 ..": 0 is the lowest. */
    static void p05Herder0IsTheFirst() {
        Scene.rich().asks("name 0 -1", 2).asks("name 0 0", 0).asks("name 0 1", 2);
    }

    static void p05HerdersBelow0AreBad() {
        Scene.all().forEach(scene -> scene.refuses(Scene.BAD, "name -1 -1", "name -1 0", "name " + Scene.MIN + " 0"));
    }

    static void p05TheLastHerder() {
        Scene.rich().asks("name 4 -1", 0);
        Scene.told("hu;").asks("name 0 0", 0);
        Scene.full().asks("name 5 -1", 12).asks("name 5 0", 5);
    }

    static void p05HerdersBehindTheLastAreBad() {
        Scene.rich().refuses(Scene.BAD, "name 5 -1", "name 5 0", "name 6 -1");
        Scene.told("hu;").refuses(Scene.BAD, "name 1 -1", "name 1 0");
        Scene.full().refuses(Scene.BAD, "name 6 -1", "name 6 0", "name " + Scene.MAX + " -1");
    }

    /** "How many TURNS a NAME has (k = -1)" */
    static void p05Minus1AsksHowMany() {
        Scene.told("huuuuuuuu;hu;h;").asks("name 0 -1", 8).asks("name 1 -1", 1).asks("name 2 -1", 0);
    }

    static void p05NumbersBelowMinus1AreBad() {
        Scene.rich().refuses(Scene.BAD, "name 0 -2", "name 0 " + Scene.MIN, "name 2 -2");
    }

    /** "its k-th TURN (0 the first)" */
    static void p05Turn0IsTheFirst() {
        Scene.told("hlu;").asks("name 0 0", 2).asks("name 0 1", 0);
    }

    static void p05TheLastTurnAndOneMore() {
        Scene.told("hlu;hi;").asks("name 0 1", 0).refuses(Scene.BAD, "name 0 2", "name 1 1", "name 0 " + Scene.MAX);
    }

    /** "12 TURNS at most" */
    static void p05TheTwelfthTurnAndOneMore() {
        Scene.told("hululului;").tied(0, "luli").asks("name 0 -1", 12).asks("name 0 10", 2).asks("name 0 11", 4)
                .refuses(Scene.BAD, "name 0 12", "name 0 13");
    }

    /** "none: he has no NAME" */
    static void p05NoNameHasNoTurns() {
        Scene.told("h;hu;").asks("name 0 -1", 0).refuses(Scene.BAD, "name 0 0", "name 0 1");
    }

    /** A turn that was taken off can't be asked for any more. */
    static void p05NoTurnIsLeftBehindTheEnd() {
        Scene.told("huli;").then("loosens 0").answers("name 0 2", Scene.BAD).then("unties 0")
                .answers("name 0 0", Scene.BAD);
    }

    static void p05EachTurnHasItsNumber() {
        for (int turn = 0; turn < 6; turn++) {
            Scene.told("h" + Check.TURNS.charAt(turn) + ";").asks("name 0 0", turn);
        }
    }
}
