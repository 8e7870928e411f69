/** Promise 14: undo. */
public final class Promise14Test {
    public static void main(String[] args) {
        Trial.runAll(Promise14Test.class);
    }

    /** "STATE: none" */
    static void p14NoneIsState() {
        Scene.fresh().refuses(Scene.STATE, "undo");
        Scene.told("hul;h;").typed("h").then("keep 0").refuses(Scene.STATE, "undo");
    }

    static void p14TheOnlyOneAndOneMore() {
        Scene.told("hul;").then("ties 0 0").answers("undo", 0).then("undo").isSeenAs(Scene.told("hul;"))
                .refuses(Scene.STATE, "undo");
    }

    /** "10 are known" */
    static void p14TheTenthIsKnown() {
        Scene ten = Scene.told("h;").tied(0, "ulululului");
        ten.answers("undo", 9).times(9, "undo").answers("undo", 0).times(1, "undo").reads(" |")
                .answers("undo", Scene.STATE);
    }

    /** "older ones are lost" */
    static void p14TheEleventhIsLost() {
        Scene eleven = Scene.told("h;").tied(0, "ululululuio").tied(0, "i");
        eleven.answers("undo", 9).times(9, "undo").answers("undo", 0);
        eleven.times(10, "undo").reads("ul |").refuses(Scene.STATE, "undo");
    }

    static void p14OnlyTheOldestIsLost() {
        Scene eleven = Scene.fresh().added("ulululululu");
        for (int undone = 1; undone <= 10; undone++) {
            eleven.times(undone, "undo").reads("|" + "ulululululu".substring(0, 11 - undone));
        }
        eleven.times(10, "undo").answers("undo", Scene.STATE).reads("|u");
    }

    /** Where the known ones are kept wraps around: whatever was done and undone before, ten are known. */
    static void p14TenAreKnownBehindAnyNumber() {
        for (int before = 0; before <= 21; before++) {
            Scene ten = Scene.fresh().times(before, "tears").added("ulululului");
            ten.answers("now 3", 10);
            for (int undone = 1; undone <= 10; undone++) {
                ten.times(undone, "undo").reads("|" + "ulululului".substring(0, 10 - undone));
            }
            ten.times(9, "undo").answers("undo", 0).then("undo").answers("undo", Scene.STATE);
        }
    }

    static void p14WhatWasUndoneMakesRoom() {
        Scene scene = Scene.fresh().added("uuuuuuuuuuuu").times(4, "undo").added("llll");
        scene.answers("now 3", 10).times(4, "undo").reads("|uuuuuuuu").answers("now 3", 6);
        scene.times(10, "undo").reads("|uu").answers("undo", Scene.STATE);
    }

    /** "the latest ties(), loosens(), bends(), unties(), adds(), tears()" */
    static void p14EachKindOfDeed() {
        Scene before = Scene.told("hul;hri;h;").added("ui");
        for (String deed : new String[] {"ties 0 0", "ties 0 3", "loosens 1", "bends 0 1", "unties 0", "adds 4",
            "tears", "unties 2", "bends 2 0"}) {
            before.then(deed).answers("now 3", 3).answers("undo", 2).then("undo").isSeenAs(before);
        }
    }

    static void p14TheLatestIsTheFirst() {
        Scene scene = Scene.told("hul;hri;").then("adds 4", "ties 0 3", "loosens 1", "bends 0 1", "unties 0", "tears");
        String[] due = {" ru |i", "ur ru |i", "u r |i", "u ri |i", "ul ri |i", "ul ri |"};
        scene.reads(" ru |");
        for (int undone = 1; undone <= 6; undone++) {
            scene.answers("undo", 5).times(undone, "undo").reads(due[undone - 1]);
        }
    }

    /** "that was not refused" */
    static void p14WhatWasRefusedIsNotUndone() {
        Scene scene = Scene.full();
        scene.then("ties 0 0", "ties 0 6", "ties 6 0", "loosens 6", "bends 0 0", "bends 0 2", "unties 6", "adds 0",
                "adds 6").then("undo").isSeenAs(scene.then("undo"));
        Scene.told("hu;h;").then("ties 0 2", "loosens 1").answers("undo", 0).then("undo").reads("u  |");
    }

    /** Only those six are deeds. */
    static void p14NothingElseIsUndone() {
        Scene scene = Scene.told("hul;hr;").then("ties 0 2", "keep 0", "type 104", "clear", "type 117", "rate 5 1",
                "alike 0", "newName 2 2 0", "lives 0", "camp");
        scene.answers("now 3", 1).answers("undo", 0);
        scene.then("undo").reads("ul r |").answers("trace", 100001).answers("count 1", 1).answers("back 0", 4);
    }

    /** It is no deed itself. */
    static void p14UndoingIsNotUndone() {
        Scene.told("hu;").then("ties 0 0", "ties 0 2", "undo").answers("undo", 0).then("undo").reads("u |")
                .answers("undo", Scene.STATE);
    }

    /** "nothing can be UNDONE behind back()" */
    static void p14NothingBehindBack() {
        Scene.rich().then("back 0").refuses(Scene.STATE, "undo");
    }

    static void p14NothingBehindATextThatWasRead() {
        Scene.rich().typed(";").then("camp").refuses(Scene.STATE, "undo");
    }

    static void p14AFaultyTextLeavesWhatCanBeUndone() {
        Scene.rich().then("camp").answers("undo", 4);
    }
}
