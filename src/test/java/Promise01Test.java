import java.util.List;

/** Promise 1, a new object; and that an object is used for 512 calls. */
public final class Promise01Test {
    public static void main(String[] args) {
        Trial.runAll(Promise01Test.class);
    }

    /** "no HERDERS" */
    static void p01ThereAreNoHerders() {
        Scene.fresh().asks("count 0", 0).asks("now 0", 0).asks("now 1", 0).asks("now 2", 0);
    }

    /** "HERDERS 0 ..": with none of them, no number is one's. */
    static void p01NoNumberIsAHerders() {
        for (int h : new int[] {Scene.MIN, -1, 0, 1, 5, 6, Scene.MAX}) {
            Scene.fresh().refuses(Scene.BAD, "name " + h + " -1", "ties " + h + " 0", "loosens " + h,
                    "unties " + h, "alike " + h, "ring " + h, "root " + h, "order " + h,
                    "mixed " + h + " 0", "share " + h + " 1");
            Scene.fresh().refuses(Scene.BAD, "bends " + h + " 1", "bends 1 " + h, "way " + h + " 0",
                    "way 0 " + h, "cold " + h + " 0 0 0", "cold 0 " + h + " 0 0");
            Scene.fresh().refuses(Scene.NO, "rate 0 " + h);
        }
    }

    static void p01TheTextIsEmpty() {
        Scene.fresh().asks("count 1", 0).asks("clear", 0).answers("type 104", 1);
    }

    /** "THE CONTRACT is a ROW (.. none at first ..)" */
    static void p01TheContractHasNoTurns() {
        Scene.fresh().asks("contract -1", 0).refuses(Scene.BAD, "contract 0");
    }

    static void p01NothingCanBeUndone() {
        Scene.fresh().asks("now 3", 0).refuses(Scene.STATE, "undo");
    }

    static void p01NoImageWasKept() {
        Scene.fresh().refuses(Scene.STATE, "back 0", "back 1");
    }

    /** "THE TRACE, 0 at first" */
    static void p01TheTraceIs0() {
        Scene.fresh().asks("trace", 0);
    }

    static void p01WhatIsAskedOfNothing() {
        Scene.fresh().asks("newName 4 4 -1", 750).asks("lives -1", 0).asks("lives 0", Scene.NONE)
                .asks("next", Scene.NONE).asks("pulls 0", 1).asks("pulls 1", 0).asks("pulls 2", 0).asks("pulls 3", 0);
    }

    static void p01AnotherObjectsCallsAreNotSeen() {
        KnotNames used = Check.told("hul;hr;");
        used.adds(1);
        used.keep(0);
        used.rate(5, 0);
        used.type('h');
        KnotNames x = new KnotNames();
        Trial.due("count(0)", x.count(0), 0);
        Trial.due("count(1)", x.count(1), 0);
        Trial.due("contract(-1)", x.contract(-1), 0);
        Trial.due("now(3)", x.now(3), 0);
        Trial.due("back(0)", x.back(0), Scene.STATE);
        Trial.due("trace()", x.trace(), 0L);
        Trial.due("the used one", Check.all(used), "ul r |d");
    }

    /** "An object is used for at most 512 calls": the 512th answers as an earlier one would. */
    static void p01The512thCallAnswersAsTold() {
        String[] calls = {"type 104", "clear", "camp", "name 0 -1", "contract 0", "now 3", "ties 0 0", "loosens 0",
            "bends 0 1", "unties 1", "adds 5", "tears", "undo", "alike 0", "ring 0", "way 0 1", "root 0", "order 3",
            "cold 0 3 1 1", "mixed 0 2", "newName 4 4 3", "pulls 2", "lives -1", "lives 1", "next",
            "porridge 1 6 6 0", "share 2 99", "rate 3 1", "keep 0", "back 1", "count 1", "trace"};
        Scene early = Scene.rich();
        Scene late = early.times(511 - early.length(), "now 0");
        Trial.due("calls before the last one", late.length(), 511);
        for (String call : calls) {
            late.answers(call, early.answersOf(List.of(call))[0]);
        }
    }

    static void p01The512thCallSeesWhatTheOthersDid() {
        Scene.fresh().times(511, "type 104").answers("count 1", 200);
        Scene.fresh().times(511, "adds 0").answers("contract -1", 12);
        Scene.fresh().times(511, "tears").answers("undo", 9);
        Scene.told("h;").times(508, "rate 5 0").answers("trace", 508L * 100001);
        Scene.told("h;").times(508, "ties 0 4").answers("name 0 -1", 12);
    }
}
