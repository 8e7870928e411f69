/** Promise 30: back. */
public final class Promise30Test {
    public static void main(String[] args) {
        Trial.runAll(Promise30Test.class);
    }

    /** "IMAGES 0, 1" */
    static void p30BothImages() {
        Scene.rich().answers("back 0", 8).then("back 0").reads("ul r  uli ul |u");
        Scene.rich().answers("back 1", 9).then("back 1").reads("ul ri  uli ul |ui");
    }

    static void p30ImagesBelow0AreBad() {
        Scene.all().forEach(scene -> scene.refuses(Scene.BAD, "back -1", "back " + Scene.MIN));
    }

    static void p30ImagesAbove1AreBad() {
        Scene.all().forEach(scene -> scene.refuses(Scene.BAD, "back 2", "back " + Scene.MAX));
    }

    /** "STATE: none was kept" */
    static void p30NoneWasKept() {
        Scene.fresh().refuses(Scene.STATE, "back 0", "back 1");
        Scene scene = Scene.told("hul;h;").then("ties 0 4", "adds 2", "rate 1 0").typed("h");
        scene.refuses(Scene.STATE, "back 0", "back 1");
    }

    static void p30OnlyTheOtherOneWasKept() {
        Scene scene = Scene.told("hul;h;").then("ties 0 4");
        scene.then("keep 0", "loosens 0").refuses(Scene.STATE, "back 1").answers("back 0", 3);
        scene.then("keep 1", "loosens 0").refuses(Scene.STATE, "back 0").answers("back 1", 3);
    }

    /** "the first of these: BAD .., STATE": where none was kept, there is still no image 2. */
    static void p30BadComesBeforeState() {
        Scene.fresh().refuses(Scene.BAD, "back 2", "back -1");
    }

    /** "Read anew: .. IMAGES are gone" */
    static void p30BehindATextThatWasReadNoneIsKept() {
        Scene.rich().typed(";").then("camp").refuses(Scene.STATE, "back 0", "back 1");
        Scene.rich().then("clear", "camp").refuses(Scene.STATE, "back 0", "back 1");
        Scene.rich().typed(";").then("camp", "keep 1").answers("back 1", 2).answers("back 0", Scene.STATE);
    }

    static void p30AFaultyTextLeavesImages() {
        Scene.rich().then("camp").answers("back 0", 8).answers("back 1", 9);
    }

    /** "nothing can be UNDONE behind back()" */
    static void p30NothingCanBeUndoneBehindIt() {
        Scene.rich().then("back 0").answers("now 3", 0).refuses(Scene.STATE, "undo");
        Scene.full().then("back 1").answers("now 3", 0).refuses(Scene.STATE, "undo");
    }

    static void p30WhatIsDoneThenCanBeUndone() {
        Scene back = Scene.rich().then("back 1");
        back.then("ties 0 0").answers("now 3", 1).answers("undo", 0).then("undo").isSeenAs(back);
    }

    /** Ten are known behind it, too, and none from before it. */
    static void p30TenMoreCanBeUndone() {
        Scene eleven = Scene.full().then("back 0").times(11, "tears");
        eleven.answers("now 3", 10).times(9, "undo").answers("undo", 0).then("undo").answers("undo", Scene.STATE);
    }

    static void p30AnImageStaysKept() {
        Scene back = Scene.rich().then("back 0");
        back.answers("back 0", 8).answers("back 1", 9);
        back.then("unties 0", "unties 3", "adds 3", "back 0").reads("ul r  uli ul |u");
        back.then("back 0").isSeenAs(back);
    }

    static void p30WithoutHerders() {
        Scene.fresh().then("keep 0", "adds 0").answers("back 0", 0).then("back 0").reads("|").answers("count 0", 0);
    }

    static void p30AllThereMayBe() {
        Scene scene = Scene.full().then("unties 0", "unties 5", "tears");
        scene.answers("back 1", 72).then("back 1").answers("contract -1", 12).answers("name 5 11", 5)
                .answers("name 0 -1", 12);
        scene.answers("back 0", 72).then("back 0").answers("contract -1", 0);
    }

    /** A name that was none in the image is none again, one that was longer is so again. */
    static void p30ShorterAndLongerNames() {
        Scene.told("h;hul;").then("keep 0", "ties 0 3", "unties 1", "back 0").reads(" ul |").answers("name 0 0", Scene.BAD);
    }

    /** "keep NOW ..; nothing else": the text and the trace stay. */
    static void p30TextAndTraceStay() {
        Scene.rich().then("back 0").answers("count 1", 3).answers("trace", 1011).typed(";").answers("camp", 1);
    }
}
