/** Promise 27: share. */
public final class Promise27Test {
    public static void main(String[] args) {
        Trial.runAll(Promise27Test.class);
    }

    static void p27TheFirstAndTheLastHerder() {
        Scene.told("hu;hl;hu;").asks("share 0 99", 24).asks("share 2 99", 24).asks("share 1 99", 49);
        Scene.full().asks("share 0 99", 16).asks("share 5 99", 16);
    }

    static void p27HerdersBelow0AreBad() {
        Scene.all().forEach(scene -> scene.refuses(Scene.BAD, "share -1 1", "share " + Scene.MIN + " 1"));
    }

    static void p27HerdersBehindTheLastAreBad() {
        Scene.rich().refuses(Scene.BAD, "share 5 1", "share 6 1");
        Scene.full().refuses(Scene.BAD, "share 6 1", "share " + Scene.MAX + " 99");
    }

    /** "n (1 .. 99) dogs" */
    static void p27OneDog() {
        Scene.told("hu;").asks("share 0 1", 1);
        Scene.told("hu;hu;").asks("share 0 1", 0);
        Scene.told("hu;hl;").asks("share 0 1", 0);
    }

    static void p27FewerThanOneDogAreBad() {
        Scene.rich().refuses(Scene.BAD, "share 0 0", "share 0 -1", "share 0 " + Scene.MIN);
    }

    static void p27NinetyNineDogs() {
        Scene.told("hu;").asks("share 0 99", 99);
        Scene.told("h;h;h;h;h;h;").asks("share 5 99", 16);
    }

    static void p27MoreThan99DogsAreBad() {
        Scene.rich().refuses(Scene.BAD, "share 0 100", "share 0 " + Scene.MAX);
    }

    /** "(none is a NAME, too)" */
    static void p27NoneIsANameToo() {
        Scene.told("h;hu;").asks("share 0 10", 5).asks("share 1 10", 5);
        Scene.told("h;h;hu;").asks("share 0 10", 2).asks("share 2 10", 5);
        Scene.told("h;").asks("share 0 10", 10);
    }

    /** "(cut, each time)" */
    static void p27WhatIsLeftOverIsCut() {
        Scene.told("hu;hu;hl;h;h;h;").asks("share 0 11", 1).asks("share 2 11", 3).asks("share 3 11", 1)
                .asks("share 3 8", 0).asks("share 3 9", 1).asks("share 2 2", 0).asks("share 2 3", 1);
    }

    static void p27FewerDogsThanNames() {
        Scene.full().asks("share 0 5", 0).asks("share 0 6", 1).asks("share 5 11", 1).asks("share 5 12", 2);
    }

    /** "each NAME's by all who are called so" */
    static void p27FewerDogsThanThoseAlike() {
        Scene.told("hu;hu;hu;hu;hu;hu;").asks("share 0 5", 0).asks("share 5 6", 1);
    }
}
