/** Promise 15: alike. */
public final class Promise15Test {
    public static void main(String[] args) {
        Trial.runAll(Promise15Test.class);
    }

    static void p15TheFirstAndTheLastHerder() {
        Scene.told("hu;hl;hi;").asks("alike 0", 0b001).asks("alike 2", 0b100);
        Scene.full().asks("alike 0", 0b000001).asks("alike 5", 0b100000);
    }

    static void p15HerdersBelow0AreBad() {
        Scene.all().forEach(scene -> scene.refuses(Scene.BAD, "alike -1", "alike " + Scene.MIN));
    }

    static void p15HerdersBehindTheLastAreBad() {
        Scene.rich().refuses(Scene.BAD, "alike 5", "alike 6");
        Scene.full().refuses(Scene.BAD, "alike 6", "alike " + Scene.MAX);
    }

    static void p15OneAloneIsAlikeHimself() {
        Scene.told("h;").asks("alike 0", 1);
        Scene.told("hul;").asks("alike 0", 1);
    }

    static void p15AllSix() {
        Scene.told("hul;hul;hul;hul;hul;hul;").asks("alike 0", 0b111111).asks("alike 5", 0b111111);
    }

    /** "none: he has no NAME": all who have none are ALIKE. */
    static void p15ThoseWithoutAName() {
        Scene.told("h;hu;h;hud;").asks("alike 0", 0b1101).asks("alike 1", 0b0010);
        Scene.told("h;h;h;h;h;h;").asks("alike 3", 0b111111);
    }

    static void p15ANamesStartIsAnother() {
        Scene.told("hul;hu;huli;").asks("alike 0", 0b001).asks("alike 1", 0b010).asks("alike 2", 0b100);
    }

    /** "12 TURNS at most": the twelfth one counts. */
    static void p15TheTwelfthTurnCounts() {
        Scene.told("huuuuuuuu;huuuuuuuu;huuuuuuuu;").tied(0, "uuuu").tied(1, "uuul").tied(2, "uuuu")
                .asks("alike 0", 0b101).asks("alike 1", 0b010);
    }

    static void p15TheFirstTurnCounts() {
        Scene.told("hull;hill;").asks("alike 0", 0b01);
    }
}
