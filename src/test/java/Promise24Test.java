/** Promise 24: lives. */
public final class Promise24Test {
    public static void main(String[] args) {
        Trial.runAll(Promise24Test.class);
    }

    private static void first(Scene scene, int... due) {
        for (int k = 0; k < due.length; k++) {
            scene.asks("lives " + k, due[k]);
        }
        scene.asks("lives " + due.length, Scene.NOT_SO_MANY);
    }

    /** "how many (k = -1)" */
    static void p24Minus1AsksHowMany() {
        Scene.told("hu;").added("u").asks("lives -1", 1);
    }

    static void p24NumbersBelowMinus1AreBad() {
        Scene.all().forEach(scene -> scene.refuses(Scene.BAD, "lives -2", "lives " + Scene.MIN));
        Scene.told("hu;").added("u").refuses(Scene.BAD, "lives -2");
    }

    /** "the k-th of it": 0 is the first. */
    static void p24Number0IsTheFirst() {
        first(Scene.told("hl;hu;").added("ul"), 1, 0);
    }

    /** "(-5: not so many)": no highest k is told. */
    static void p24NotSoMany() {
        Scene.told("hu;").added("u").asks("lives 0", 0).asks("lives 1", Scene.NOT_SO_MANY)
                .asks("lives 5", Scene.NOT_SO_MANY).asks("lives 6", Scene.NOT_SO_MANY)
                .asks("lives " + Scene.MAX, Scene.NOT_SO_MANY);
    }

    /** A row of all six, and one more. */
    static void p24ARowOfSix() {
        Scene all = Scene.told("hu;hu;hu;hu;hu;hu;").added("uuuuuu");
        all.asks("lives -1", 720);
        first(all, 0, 1, 2, 3, 4, 5);
        Scene backwards = Scene.told("hi;hl;huu;hii;hll;hu;").added("uuullliii");
        backwards.asks("lives -1", 8);
        first(backwards, 2, 5, 1, 4, 0, 3);
    }

    /** "NONE": whatever k is. */
    static void p24WhereThereIsNone() {
        Scene.told("hu;").added("l").asks("lives -1", 0).asks("lives 0", Scene.NONE).asks("lives 1", Scene.NONE)
                .asks("lives 6", Scene.NONE).asks("lives " + Scene.MAX, Scene.NONE);
    }

    static void p24WithoutHerdersThereIsNone() {
        Scene.fresh().asks("lives -1", 0).asks("lives 0", Scene.NONE);
        Scene.fresh().added("ud").asks("lives -1", 0).asks("lives 0", Scene.NONE);
    }

    /** "one at least": a row of no HERDERS is none. */
    static void p24ARowHasOneAtLeast() {
        Scene.told("hu;hl;").asks("lives -1", 0).asks("lives 0", Scene.NONE);
        Scene.told("hu;hl;").added("lr").asks("lives -1", 0);
    }

    /** "each once at most" */
    static void p24EachOnceAtMost() {
        Scene.told("hu;").added("uu").asks("lives -1", 0);
        Scene.told("hu;hu;").added("uu").asks("lives -1", 2);
        Scene.told("h;").asks("lives -1", 1);
    }

    /** "none: he has no NAME": he may stand in a row, and be one alone. */
    static void p24HerdersWithoutAName() {
        Scene.told("h;").asks("lives -1", 1).asks("lives 0", 0).asks("lives 1", Scene.NOT_SO_MANY);
        Scene.told("hu;h;").added("u").asks("lives -1", 3);
    }

    /** All rows there are of six HERDERS. */
    static void p24TheMostLives() {
        Scene.told("h;h;h;h;h;h;").asks("lives -1", 6 + 30 + 120 + 360 + 720 + 720).asks("lives 0", 0)
                .asks("lives 1", Scene.NOT_SO_MANY);
    }

    /** "the first (fewest HERDERS ..": though a longer row begins with a lower one. */
    static void p24TheFewestHerdersAreTheFirst() {
        Scene scene = Scene.told("hu;hl;hi;huli;").added("uli");
        scene.asks("lives -1", 2);
        first(scene, 3);
        Scene twoOfThree = Scene.told("hu;hl;hi;hul;").added("uli");
        twoOfThree.asks("lives -1", 2);
        first(twoOfThree, 3, 2);
    }

    /** "then by the first one, the second, ..)" */
    static void p24ThenByTheFirstOneThenTheSecond() {
        first(Scene.told("hul;hu;hl;hl;").added("ull"), 0, 2);
        first(Scene.told("hl;hu;hl;").added("ul"), 1, 0);
        Scene sameFirst = Scene.told("hu;hl;hl;hul;").added("ull");
        sameFirst.asks("lives -1", 4);
        first(sameFirst, 3, 1);
    }

    /** "DRAWN TIGHT, are THE CONTRACT, DRAWN TIGHT" */
    static void p24BothAreDrawnTight() {
        first(Scene.told("hul;hri;").added("ulriio"), 0, 1);
        first(Scene.told("hu;hd;").added("lr"), 0, 1);
        Scene.told("hu;hd;").added("lr").asks("lives -1", 2);
    }

    /** "12 TURNS at most": rows of up to 72 TURNS. */
    static void p24TwelveTurns() {
        Scene scene = Scene.full().then("tears").added("uuuuuuuuuuuu");
        // u alone; with l and r or with i and o beside one another before or behind it; with all of these
        scene.asks("lives -1", 1 + 2 * 4 + 8 * 3 + 8 * 2);
        first(scene, 0);
        Scene.full().then("tears").asks("lives 0", 0).asks("lives 1", 1);
    }

    static void p24TheTwelfthTurnCounts() {
        Scene scene = Scene.told("huuuuuuuu;huuuuuuuu;").tied(0, "uuuu").tied(1, "uuul").added("uuuuuuuuuuul");
        scene.asks("lives -1", 1);
        first(scene, 1);
    }

    /** A row of 72 TURNS, some of which undo one another, does not spoil those that come behind it. */
    static void p24BehindTheLongestRow() {
        Scene scene = Scene.told("huuuuuuuu;hiiiiiiii;huiuiuiui;hiuiuiuiu;huuuuuuuu;hrruuuuuu;").tied(0, "uuuu")
                .tied(1, "iiii").tied(2, "uiui").tied(3, "iuiu").tied(4, "uull").tied(5, "uuuu").added("iiiiiiiiiiii");
        scene.asks("lives -1", 1);
        first(scene, 1);
    }

    static void p24WhatStandsNowIsRead() {
        Scene scene = Scene.told("hu;hl;").added("ul").then("lives 0").answers("lives 1", 1);
        scene.then("tears").answers("lives -1", 0).answers("lives 0", Scene.NONE);
        scene.then("unties 1").answers("lives 0", Scene.NONE).then("undo").answers("lives 0", 0);
    }
}
