/** Promise 16: ring. */
public final class Promise16Test {
    public static void main(String[] args) {
        Trial.runAll(Promise16Test.class);
    }

    static void p16TheFirstAndTheLastHerder() {
        Scene.told("hu;hl;hi;").asks("ring 0", 0b001).asks("ring 2", 0b100);
        Scene.full().asks("ring 0", 0b000001).asks("ring 5", 0b100000);
    }

    static void p16HerdersBelow0AreBad() {
        Scene.all().forEach(scene -> scene.refuses(Scene.BAD, "ring -1", "ring " + Scene.MIN));
    }

    static void p16HerdersBehindTheLastAreBad() {
        Scene.rich().refuses(Scene.BAD, "ring 5", "ring 6");
        Scene.full().refuses(Scene.BAD, "ring 6", "ring " + Scene.MAX);
    }

    /** "none: he has no NAME": RINGS of no TURNS are one. */
    static void p16ThoseWithoutAName() {
        Scene.told("h;hu;h;").asks("ring 0", 0b101).asks("ring 1", 0b010);
        Scene.told("h;h;h;h;h;h;").asks("ring 5", 0b111111);
    }

    static void p16OneTurn() {
        Scene.told("hu;hu;hd;").asks("ring 0", 0b011).asks("ring 2", 0b100);
    }

    static void p16TwoTurns() {
        Scene.told("hul;hlu;huu;hll;hdr;").asks("ring 0", 0b00011).asks("ring 2", 0b00100).asks("ring 4", 0b10000);
    }

    /** "its first and last TURNS, if they UNDO each other, go": until one TURN is left. */
    static void p16OneTurnIsLeft() {
        Scene.told("huld;hl;").asks("ring 0", 0b11).asks("ring 1", 0b11);
    }

    /** "over and over": of eleven TURNS ten go, of twelve TURNS ten go. */
    static void p16FiveGoFromEachEnd() {
        Scene scene = Scene.told("huliluidr;hi;huliluiid;hii;").tied(0, "ord").tied(2, "rord");
        scene.answers("name 0 -1", 11).answers("name 2 -1", 12);
        scene.asks("ring 0", 0b0011).asks("ring 1", 0b0011).asks("ring 2", 0b1100).asks("ring 3", 0b1100);
    }

    /** Two TURNS that are the same are no two that UNDO each other. */
    static void p16LikeEndsStay() {
        Scene.told("hulu;hl;huul;").asks("ring 0", 0b101).asks("ring 1", 0b010);
    }

    /** "if the one is the other one begun elsewhere": at each of twelve places. */
    static void p16BegunAtEachPlace() {
        String ring = "uliuuollulil";
        for (int begin = 0; begin < 12; begin++) {
            String begun = ring.substring(begin) + ring.substring(0, begin);
            Scene.told("h;h;").tied(0, ring).tied(1, begun).answers("ring 0", 0b11).answers("ring 1", 0b11);
        }
        Scene.told("h;h;").tied(0, "uuuuuuuuuuul").tied(1, "luuuuuuuuuuu").asks("ring 0", 0b11).asks("ring 1", 0b11);
    }

    static void p16OneOfTwelveTurnsIsAnother() {
        Scene.told("h;h;").tied(0, "uuuuuuuuuuul").tied(1, "uuuuuuuuuuui").asks("ring 0", 0b01);
        Scene.told("h;h;").tied(0, "uuuuuuuuuuul").tied(1, "uuuuuuuuuuul").asks("ring 0", 0b11);
    }

    static void p16ARingOfAnotherLengthIsAnother() {
        Scene.told("hul;hulul;hululul;").asks("ring 0", 0b001).asks("ring 1", 0b010).asks("ring 2", 0b100);
    }

    static void p16ARingReadBackwardsIsAnother() {
        Scene.told("huli;hilu;").asks("ring 0", 0b01);
    }
}
