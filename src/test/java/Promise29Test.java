/** Promise 29: keep. */
public final class Promise29Test {
    public static void main(String[] args) {
        Trial.runAll(Promise29Test.class);
    }

    /** "IMAGES 0, 1" */
    static void p29Image0() {
        Scene.told("hul;").answers("keep 0", 2).then("keep 0", "unties 0").answers("back 0", 2)
                .answers("back 1", Scene.STATE);
    }

    static void p29Image1() {
        Scene.told("hul;").answers("keep 1", 2).then("keep 1", "unties 0").answers("back 1", 2)
                .answers("back 0", Scene.STATE);
    }

    static void p29ImagesBelow0AreBad() {
        Scene.all().forEach(scene -> scene.refuses(Scene.BAD, "keep -1", "keep " + Scene.MIN));
    }

    static void p29ImagesAbove1AreBad() {
        Scene.all().forEach(scene -> scene.refuses(Scene.BAD, "keep 2", "keep " + Scene.MAX));
    }

    static void p29WithoutHerders() {
        Scene.fresh().answers("keep 0", 0).then("keep 0").answers("back 0", 0).answers("back 1", Scene.STATE);
        Scene.fresh().added("ul").then("keep 1", "tears", "back 1").reads("|ul");
    }

    static void p29HerdersWithoutNames() {
        Scene.told("h;h;").answers("keep 0", 0).then("keep 0", "ties 0 0", "back 0").reads("  |");
    }

    /** "TURNS of all NAMES": the contract's are none of them. */
    static void p29AllThereMayBe() {
        Scene.full().answers("keep 0", 72).answers("keep 1", 72);
        Scene.fresh().added("ul").answers("keep 0", 0);
    }

    /** "keep NOW (NAMES, THE CONTRACT)" */
    static void p29NamesAndContractAreKept() {
        Scene.full().then("clear", "keep 0", "tears", "unties 0", "loosens 1", "bends 2 3", "back 0")
                .reads("uuuuuuuuuuuu dddddddddddd llllllllllll rrrrrrrrrrrr iiiiiiiiiiii oooooooooooo |uliulidrodro");
    }

    /** What is done then does not change what was kept. */
    static void p29AnImageStaysAsItWas() {
        Scene.told("hul;").then("adds 3", "keep 0", "ties 0 0", "adds 4", "undo", "undo", "loosens 0", "tears")
                .then("back 0").reads("ul |r");
    }

    static void p29KeptAnewTheOlderOneIsGone() {
        Scene.told("hul;").then("adds 3", "keep 0", "ties 0 0", "tears", "keep 0", "unties 0", "back 0").reads("ulu |");
        Scene.told("hul;").then("keep 0", "unties 0", "keep 0", "ties 0 5", "back 0").reads(" |");
    }

    static void p29TheOtherImageStays() {
        Scene.told("hul;").then("keep 0", "ties 0 0", "keep 1", "unties 0", "back 0").reads("ul |");
        Scene.told("hul;").then("keep 1", "ties 0 0", "keep 0", "unties 0", "back 1").reads("ul |");
    }

    /** "nothing else" */
    static void p29NothingElseChanges() {
        Scene kept = Scene.rich().then("keep 0");
        kept.reads("ul ri  ul  |ui").answers("now 3", 5).answers("undo", 4).answers("trace", 1011).answers("count 1", 3)
                .answers("back 1", 9);
        Scene.rich().then("keep 0", "keep 0").isSeenAs(kept);
        Scene.rich().then("keep 0", "undo", "undo", "undo", "undo").answers("undo", 0);
    }
}
