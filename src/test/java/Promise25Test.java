/** Promise 25: next. */
public final class Promise25Test {
    public static void main(String[] args) {
        Trial.runAll(Promise25Test.class);
    }

    /** "NONE" */
    static void p25WithoutHerdersThereIsNone() {
        Scene.fresh().asks("next", Scene.NONE);
        Scene.fresh().added("ud").asks("next", Scene.NONE);
    }

    static void p25WithoutLivesThereIsNone() {
        Scene.told("hu;").added("l").asks("next", Scene.NONE);
        Scene.told("hu;hl;").asks("next", Scene.NONE);
        Scene.full().asks("next", Scene.NONE);
    }

    static void p25TheFirstHerder() {
        Scene.told("hu;hl;hi;").added("u").asks("next", 0);
    }

    static void p25TheLastHerder() {
        Scene.told("hu;hl;hi;").added("i").asks("next", 2);
        Scene.told("hu;hu;hu;hu;hu;ho;").added("o").asks("next", 5);
    }

    /** "in most of these rows": not in the first of them. */
    static void p25InMostRows() {
        // 0 alone is the first; 1 is in two rows, or 3 is
        Scene.told("hul;hu;hl;hl;").added("ul").answers("lives 0", 0).asks("next", 1);
        Scene.told("hul;hu;hu;hl;").added("ul").answers("lives 0", 0).asks("next", 3);
    }

    /** "of several the lowest" */
    static void p25OfSeveralTheLowest() {
        Scene.told("hl;hu;").added("ul").asks("next", 0);
        Scene.told("hu;hu;hu;hu;hu;hu;").added("u").asks("next", 0);
        Scene.told("h;h;h;h;h;h;").asks("next", 0);
        Scene.told("hi;hl;hu;").added("ul").asks("next", 1);
    }

    /** "none: he has no NAME": he is in a row of most, too. */
    static void p25AHerderWithoutAName() {
        // u; u and none in either order
        Scene.told("hl;h;hu;").added("u").asks("next", 2);
        Scene.told("hl;h;").asks("next", 1);
    }

    static void p25WhatStandsNowIsRead() {
        Scene scene = Scene.told("hu;hl;").added("u").then("next");
        scene.then("tears", "adds 2").answers("next", 1);
        scene.then("unties 0").answers("next", Scene.NONE);
        scene.then("tears").answers("next", Scene.NONE);
    }

    /** In how many rows one was before does not count. */
    static void p25NothingIsLeftOfAnEarlierAnswer() {
        for (int before = 0; before < 6; before++) {
            Scene asked = Scene.told("hu;hd;hl;hr;hi;ho;").then("adds " + before).times(9, "next").then("tears");
            for (int h = 0; h < 6; h++) {
                asked.then("adds " + h).answers("next", h);
            }
        }
    }
}
