/** Promise 10: bends. */
public final class Promise10Test {
    public static void main(String[] args) {
        Trial.runAll(Promise10Test.class);
    }

    static void p10TheFirstAndTheLastHerder() {
        Scene.told("hu;h;h;h;h;hl;").answers("bends 0 5", 2).then("bends 0 5").reads("ul     lu |");
        Scene.told("hu;h;h;h;h;hl;").answers("bends 5 0", 2).then("bends 5 0").reads("ul     lu |");
    }

    static void p10HerdersBelow0AreBad() {
        Scene.all().forEach(scene -> scene.refuses(Scene.BAD, "bends -1 0", "bends 0 -1", "bends -1 -1",
                "bends " + Scene.MIN + " 0", "bends 0 " + Scene.MIN));
    }

    static void p10HerdersBehindTheLastAreBad() {
        Scene.rich().refuses(Scene.BAD, "bends 5 0", "bends 0 5", "bends 5 6");
        Scene.full().refuses(Scene.BAD, "bends 6 0", "bends 0 6", "bends " + Scene.MAX + " 0", "bends 0 " + Scene.MAX);
    }

    /** "two HERDERS (unlike)", "BAD (alike, too)": one can't marry himself. */
    static void p10OneHerderTwiceIsBad() {
        Scene.rich().refuses(Scene.BAD, "bends 0 0", "bends 2 2", "bends 4 4");
        Scene.told("hu;").refuses(Scene.BAD, "bends 0 0");
    }

    /** Two HERDERS of the same NAME are still two. */
    static void p10TwoOfOneNameCanMarry() {
        Scene.told("hul;hul;").answers("bends 0 1", 4).then("bends 0 1").reads("ulul ulul |");
    }

    static void p10NoNameAndAName() {
        Scene.told("h;hul;").answers("bends 0 1", 2).answers("bends 1 0", 2).then("bends 0 1").reads("ul ul |");
    }

    static void p10NoNameAndNoName() {
        Scene.told("h;h;").answers("bends 0 1", 0).then("bends 0 1").reads("  |").answers("now 3", 1);
    }

    /** "the other one's the first one's old NAME, put behind his own" */
    static void p10TheOtherOneGetsTheOldName() {
        Scene.told("hu;hl;").then("bends 0 1").reads("ul lu |");
    }

    /** All TURNS may go as they are DRAWN TIGHT. */
    static void p10BothNamesMayGo() {
        Scene.told("huli;hord;").answers("bends 0 1", 0).then("bends 0 1").reads("  |");
        Scene.full().answers("bends 0 1", 0).answers("bends 3 2", 0);
    }

    /** "12 TURNS at most" */
    static void p10BothHaveTwelve() {
        Scene.told("huuuuuu;hllllll;").answers("bends 0 1", 12).then("bends 0 1").reads("uuuuuullllll lllllluuuuuu |");
        Scene.told("huuuuuuuu;hllll;").answers("bends 0 1", 12).answers("bends 1 0", 12);
        Scene.full().then("unties 2").answers("bends 0 2", 12).answers("bends 2 0", 12);
    }

    /** "FULL: one of the NAMES would have more than 12" */
    static void p10ThirteenIsFull() {
        Scene.told("huuuuuuu;hllllll;").refuses(Scene.FULL, "bends 0 1", "bends 1 0");
        Scene.full().then("unties 2", "ties 2 2").refuses(Scene.FULL, "bends 0 2", "bends 2 0");
    }

    static void p10OnlyTheOtherOnesIsTooLong() {
        Scene scene = Scene.told("huuuuuul;hriiiiii;").then("adds 0", "keep 0").typed("h");
        scene.refuses(Scene.FULL, "bends 0 1").reads("uuuuuul riiiiii |u");
    }

    static void p10OnlyTheFirstOnesIsTooLong() {
        Scene scene = Scene.told("huuuuuul;hriiiiii;").then("adds 0", "keep 0").typed("h");
        scene.refuses(Scene.FULL, "bends 1 0").reads("uuuuuul riiiiii |u");
    }

    /** Thirteen is too long for one of them though the other has eleven. */
    static void p10ThirteenOfOneAloneIsFull() {
        Scene scene = Scene.told("hluuuuuu;hiiiiir;").then("adds 0", "keep 0").typed("h");
        scene.refuses(Scene.FULL, "bends 0 1", "bends 1 0").reads("luuuuuu iiiiir |u");
    }

    static void p10TwentyFourIsFull() {
        Scene.full().refuses(Scene.FULL, "bends 0 2", "bends 5 3");
    }

    /** "the first of these: BAD .., FULL" */
    static void p10OfFullNamesABadHerderIsBad() {
        Scene.full().refuses(Scene.BAD, "bends 0 0", "bends 0 6", "bends 6 0", "bends -1 0");
    }

    static void p10ItCanBeUndone() {
        Scene.rich().then("bends 0 1").answers("now 3", 6).then("undo").isSeenAs(Scene.rich());
        Scene.rich().then("bends 2 4").answers("now 3", 6).then("undo").isSeenAs(Scene.rich());
    }
}
