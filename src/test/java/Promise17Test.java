/** Promise 17: way. */
public final class Promise17Test {
    public static void main(String[] args) {
        Trial.runAll(Promise17Test.class);
    }

    static void p17TheFirstAndTheLastHerder() {
        Scene.told("hu;h;h;h;h;hul;").asks("way 0 5", 1).asks("way 5 0", 1);
    }

    static void p17HerdersBelow0AreBad() {
        Scene.all().forEach(scene -> scene.refuses(Scene.BAD, "way -1 0", "way 0 -1", "way " + Scene.MIN + " 0",
                "way 0 " + Scene.MIN));
    }

    static void p17HerdersBehindTheLastAreBad() {
        Scene.rich().refuses(Scene.BAD, "way 5 0", "way 0 5");
        Scene.full().refuses(Scene.BAD, "way 6 0", "way 0 6", "way " + Scene.MAX + " 0", "way 0 " + Scene.MAX);
    }

    static void p17FromANameToItself() {
        Scene.told("hul;hul;h;").asks("way 0 0", 0).asks("way 0 1", 0).asks("way 2 2", 0);
    }

    /** "none: he has no NAME" */
    static void p17FromAndToNoName() {
        Scene.told("h;hul;h;").asks("way 0 1", 2).asks("way 1 0", 2).asks("way 0 2", 0);
        Scene.full().then("unties 0").asks("way 0 5", 12).asks("way 5 0", 12);
    }

    static void p17TheLongestWay() {
        Scene.full().asks("way 0 5", 24).asks("way 0 1", 24);
    }

    static void p17OnlyTheTwelfthTurnIsAnother() {
        Scene.told("huuuuuuuu;huuuuuuuu;").tied(0, "uuuu").tied(1, "uuul").asks("way 0 1", 2).asks("way 1 0", 2);
    }

    static void p17OnlyTheFirstTurnIsAnother() {
        Scene.told("hull;hill;").asks("way 0 1", 6);
    }

    static void p17ANameAndItsStart() {
        Scene.told("huuuuuuuu;hu;").tied(0, "uuuu").asks("way 0 1", 11).asks("way 1 0", 11);
    }
}
