/** Promise 9: loosens. */
public final class Promise09Test {
    public static void main(String[] args) {
        Trial.runAll(Promise09Test.class);
    }

    static void p09TheFirstAndTheLastHerder() {
        Scene.told("hu;hl;hi;").answers("loosens 0", 0).answers("loosens 2", 4).then("loosens 2").reads("u l  |");
        Scene.full().answers("loosens 5", 5);
    }

    static void p09HerdersBelow0AreBad() {
        Scene.all().forEach(scene -> scene.refuses(Scene.BAD, "loosens -1", "loosens " + Scene.MIN));
    }

    static void p09HerdersBehindTheLastAreBad() {
        Scene.rich().refuses(Scene.BAD, "loosens 5", "loosens 6");
        Scene.full().refuses(Scene.BAD, "loosens 6", "loosens " + Scene.MAX);
    }

    /** "STATE: no NAME" */
    static void p09NoNameIsState() {
        Scene.rich().refuses(Scene.STATE, "loosens 2", "loosens 4");
        Scene.told("h;").refuses(Scene.STATE, "loosens 0");
        Scene.told("hud;").refuses(Scene.STATE, "loosens 0");
    }

    static void p09TheOnlyTurnLeavesNoName() {
        Scene one = Scene.told("ho;").answers("loosens 0", 5).then("loosens 0");
        one.reads(" |").answers("now 0", 0).refuses(Scene.STATE, "loosens 0");
    }

    /** "12 TURNS at most" */
    static void p09TheTwelfthTurn() {
        Scene twelve = Scene.told("huuuuuuuu;").tied(0, "uuul");
        twelve.answers("loosens 0", 2).then("loosens 0").reads("uuuuuuuuuuu |").answers("ties 0 4", 12);
    }

    static void p09AllTwelveAndOneMore() {
        Scene.full().times(11, "loosens 3").answers("loosens 3", 3).then("loosens 3").answers("loosens 3", Scene.STATE);
    }

    static void p09TheLastTurnIsTold() {
        for (int turn = 0; turn < 6; turn++) {
            Scene.told("h" + Check.TURNS.charAt(turn) + ";").answers("loosens 0", turn);
        }
        Scene.told("hulio;").answers("loosens 0", 2);
    }

    static void p09ItCanBeUndone() {
        Scene.rich().then("loosens 0").answers("now 3", 6).then("undo").isSeenAs(Scene.rich());
    }
}
