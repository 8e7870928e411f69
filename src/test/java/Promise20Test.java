/** Promise 20: cold. */
public final class Promise20Test {
    public static void main(String[] args) {
        Trial.runAll(Promise20Test.class);
    }

    private static void cold(Scene scene, String numbers, long upper, long lower) {
        scene.asks("cold " + numbers + " 0", upper).asks("cold " + numbers + " 1", lower);
    }

    static void p20TheFirstAndTheLastHerder() {
        Scene scene = Scene.told("hu;h;h;h;h;hd;");
        cold(scene, "0 5 3", 3, 10);
        cold(scene, "5 0 3", 0, 1);
    }

    static void p20HerdersBelow0AreBad() {
        Scene.all().forEach(scene -> scene.refuses(Scene.BAD, "cold -1 0 1 0", "cold 0 -1 1 0",
                "cold " + Scene.MIN + " 0 1 0", "cold 0 " + Scene.MIN + " 1 1"));
    }

    static void p20HerdersBehindTheLastAreBad() {
        Scene.rich().refuses(Scene.BAD, "cold 5 0 1 0", "cold 0 5 1 0");
        Scene.full().refuses(Scene.BAD, "cold 6 0 1 0", "cold 0 6 1 1", "cold " + Scene.MAX + " 0 1 0",
                "cold 0 " + Scene.MAX + " 1 0");
    }

    /** "p (0 .. 10)": by 0 each TURN is taken for itself. */
    static void p20Of0NoTurnIsTakenWrong() {
        Scene scene = Scene.told("hul;hdr;");
        cold(scene, "0 0 0", 1, 1);
        cold(scene, "0 1 0", 0, 1);
    }

    static void p20Below0IsBad() {
        Scene.rich().refuses(Scene.BAD, "cold 0 0 -1 0", "cold 0 0 -1 1", "cold 0 0 " + Scene.MIN + " 0");
    }

    /** By 10 each TURN is taken for the next one. */
    static void p20Of10EachTurnIsTakenWrong() {
        Scene scene = Scene.told("hul;hdr;");
        cold(scene, "0 0 10", 0, 1);
        cold(scene, "0 1 10", 1, 1);
    }

    static void p20Above10IsBad() {
        Scene.rich().refuses(Scene.BAD, "cold 0 0 11 0", "cold 0 0 11 1", "cold 0 0 " + Scene.MAX + " 0");
    }

    /** "upper (what = 0), lower number (1)" */
    static void p20OnlyUpperAndLowerCanBeAsked() {
        cold(Scene.rich(), "0 3 3", 49, 100);
        Scene.rich().refuses(Scene.BAD, "cold 0 0 3 -1", "cold 0 0 3 2", "cold 0 0 3 " + Scene.MIN,
                "cold 0 0 3 " + Scene.MAX);
    }

    /** Where the fraction is 0 at once, a wrong number is BAD still. */
    static void p20OfUnlikeLengthsAWrongNumberIsBad() {
        Scene.told("hu;hul;").refuses(Scene.BAD, "cold 0 1 11 0", "cold 0 1 -1 0", "cold 0 1 3 2", "cold 0 1 3 -1",
                "cold 0 2 3 0");
    }

    /** "for the next one (0 for 1, .., 5 for 0)" */
    static void p20EachTurnForTheNextAnd5For0() {
        for (int turn = 0; turn < 6; turn++) {
            for (int other = 0; other < 6; other++) {
                Scene scene = Scene.told("h" + Check.TURNS.charAt(turn) + ";h" + Check.TURNS.charAt(other) + ";");
                int tenths = turn == other ? 7 : other == (turn + 1) % 6 ? 3 : 0;
                scene.answers("cold 0 1 3 0", tenths).answers("cold 0 1 3 1", tenths == 0 ? 1 : 10);
            }
        }
    }

    /** "of unlike lengths: 0" */
    static void p20OfUnlikeLengthsIs0() {
        Scene scene = Scene.told("hu;huu;h;huuuuuuuu;").tied(3, "uuuu");
        cold(scene, "0 1 0", 0, 1);
        cold(scene, "1 0 0", 0, 1);
        cold(scene, "0 2 5", 0, 1);
        cold(scene, "2 0 5", 0, 1);
        cold(scene, "3 1 5", 0, 1);
        cold(scene, "2 3 10", 0, 1);
    }

    /** "none: he has no NAME": of like lengths, and no TURN is taken wrong. */
    static void p20NoNameForNoName() {
        Scene scene = Scene.told("h;h;");
        cold(scene, "0 1 0", 1, 1);
        cold(scene, "0 1 5", 1, 1);
        cold(scene, "0 0 10", 1, 1);
    }

    static void p20ANameForItself() {
        cold(Scene.told("hul;"), "0 0 3", 49, 100);
    }

    /** "in least terms" */
    static void p20InLeastTerms() {
        Scene scene = Scene.told("hul;hdr;hdl;");
        cold(scene, "0 1 5", 1, 4);
        cold(scene, "0 1 4", 4, 25);
        cold(scene, "0 2 2", 4, 25);
        cold(scene, "0 1 3", 9, 100);
    }

    /** "12 TURNS at most": the largest numbers. */
    static void p20TwelveTurns() {
        Scene.full().asks("cold 0 0 1 0", 282429536481L).asks("cold 0 0 1 1", 1000000000000L)
                .asks("cold 0 1 1 0", 1).asks("cold 0 1 1 1", 1000000000000L)
                .asks("cold 5 0 9 0", 282429536481L).asks("cold 1 0 9 0", 0).asks("cold 1 0 9 1", 1)
                .asks("cold 0 0 5 1", 4096).asks("cold 0 1 10 0", 1).asks("cold 0 1 10 1", 1);
    }

    static void p20TheTwelfthTurnCounts() {
        Scene scene = Scene.told("huuuuuuuu;huuuuuuuu;huuuuuuuu;").tied(0, "uuul").tied(1, "uuur").tied(2, "uuui");
        cold(scene, "0 1 0", 0, 1);
        cold(scene, "0 1 5", 1, 4096);
        cold(scene, "0 2 5", 0, 1);
    }
}
