/** Promise 32: trace. */
public final class Promise32Test {
    private static final long[] ADDED = {1, 10 + 1, 100 + 1, 1000 + 10 + 1, 10000 + 100 + 1, 100000 + 1};

    public static void main(String[] args) {
        Trial.runAll(Promise32Test.class);
    }

    /** "0 at first" */
    static void p32Is0AtFirst() {
        Scene.fresh().asks("trace", 0);
        Scene.told("hul;h;").asks("trace", 0);
    }

    /** "as often as rate() asks that body: each once" */
    static void p32EachBodyOnce() {
        for (int kind = 0; kind < 6; kind++) {
            Scene.told("hul;h;").then("rate " + kind + " 0").asks("trace", ADDED[kind]);
            Scene.told("hul;h;").then("rate " + kind + " 1").asks("trace", ADDED[kind]);
        }
    }

    static void p32ItIsASum() {
        Scene.told("h;").then("rate 0 0", "rate 1 0", "rate 2 0", "rate 3 0", "rate 4 0", "rate 5 0")
                .asks("trace", 111226);
        Scene.told("h;").times(3, "rate 3 0").asks("trace", 3033);
    }

    /** Of 512 calls: told by three, asked by the last one. */
    static void p32TheMostThereMayBe() {
        Scene.told("h;").times(508, "rate 5 0").answers("trace", 50800508L);
    }

    static void p32WhatIsRefusedAddsNothing() {
        Scene.told("hul;").then("rate 6 0", "rate -1 0", "rate 0 1", "rate 0 -1", "rate 5 1").asks("trace", 0);
    }

    /** Only rate() adds to it, though others ask for TURNS, those ALIKE and the ROOT, too. */
    static void p32NothingElseAddsToIt() {
        Scene.told("hul;h;").then("root 0", "alike 0", "name 0 -1", "share 0 9", "order 0", "now 1", "now 2", "keep 0",
                "lives -1", "next").asks("trace", 0);
    }

    /** Neither undo() nor back() nor camp() is said to take anything from it. */
    static void p32NothingTakesFromIt() {
        Scene rated = Scene.told("hul;h;").then("keep 0", "ties 0 0", "rate 3 0");
        rated.then("undo").asks("trace", 1011);
        rated.then("back 0").asks("trace", 1011);
        rated.then("camp").asks("trace", 1011);
        rated.then("clear").asks("trace", 1011);
    }
}
