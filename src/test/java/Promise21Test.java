/** Promise 21: mixed. */
public final class Promise21Test {
    public static void main(String[] args) {
        Trial.runAll(Promise21Test.class);
    }

    static void p21TheFirstAndTheLastHerder() {
        Scene.told("hu;h;h;h;h;hd;").asks("mixed 0 1", 0b100001).asks("mixed 5 0", 0b100000).asks("mixed 5 1", 0b100001);
    }

    static void p21HerdersBelow0AreBad() {
        Scene.all().forEach(scene -> scene.refuses(Scene.BAD, "mixed -1 0", "mixed " + Scene.MIN + " 0"));
    }

    static void p21HerdersBehindTheLastAreBad() {
        Scene.rich().refuses(Scene.BAD, "mixed 5 0", "mixed 6 0");
        Scene.full().refuses(Scene.BAD, "mixed 6 0", "mixed " + Scene.MAX + " 12");
    }

    /** "d (0 .. 12)": by 0 only those ALIKE. */
    static void p21By0OnlyThoseAlike() {
        Scene.told("hul;hur;hul;").asks("mixed 0 0", 0b101).asks("mixed 1 0", 0b010);
    }

    static void p21Below0IsBad() {
        Scene.rich().refuses(Scene.BAD, "mixed 0 -1", "mixed 2 -1", "mixed 0 " + Scene.MIN);
    }

    /** By 12 all of a like length, by 11 not those who differ in all of twelve places. */
    static void p21By12AllOfALikeLength() {
        Scene.full().asks("mixed 0 12", 0b111111).asks("mixed 0 11", 0b000001);
        Scene.full().then("loosens 2").asks("mixed 0 12", 0b111011).asks("mixed 2 12", 0b000100);
    }

    static void p21Above12IsBad() {
        Scene.rich().refuses(Scene.BAD, "mixed 0 13", "mixed 2 13", "mixed 0 " + Scene.MAX);
        Scene.full().refuses(Scene.BAD, "mixed 0 13");
    }

    /** "in d .. TURNS at most" */
    static void p21JustDAndOneMore() {
        Scene scene = Scene.told("huuuu;hluuu;hlluu;hlllu;hllll;");
        scene.asks("mixed 0 0", 0b00001).asks("mixed 0 1", 0b00011).asks("mixed 0 2", 0b00111)
                .asks("mixed 0 3", 0b01111).asks("mixed 0 4", 0b11111);
    }

    /** "of a like length": never of another one, whatever d is. */
    static void p21NeverOfAnotherLength() {
        Scene.told("hul;hu;huli;h;").asks("mixed 0 12", 0b0001).asks("mixed 1 12", 0b0010).asks("mixed 2 12", 0b0100)
                .asks("mixed 3 12", 0b1000);
    }

    /** "(himself, too)" */
    static void p21HimselfToo() {
        Scene.told("hul;").asks("mixed 0 0", 1).asks("mixed 0 12", 1);
        Scene.told("h;").asks("mixed 0 0", 1);
    }

    /** "none: he has no NAME": those are of a like length. */
    static void p21ThoseWithoutAName() {
        Scene.told("h;hu;h;").asks("mixed 0 0", 0b101).asks("mixed 0 12", 0b101);
    }

    /** "by their places" */
    static void p21ByTheirPlaces() {
        Scene.told("hul;hlu;").asks("mixed 0 1", 0b01).asks("mixed 0 2", 0b11);
    }

    static void p21TheTwelfthTurnCounts() {
        Scene.told("huuuuuuuu;huuuuuuuu;").tied(0, "uuul").tied(1, "uuuu").asks("mixed 0 0", 0b01)
                .asks("mixed 0 1", 0b11);
    }
}
