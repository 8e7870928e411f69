/** Promise 18: root. */
public final class Promise18Test {
    public static void main(String[] args) {
        Trial.runAll(Promise18Test.class);
    }

    private static void root(String name, int due) {
        Scene.told("h;").tied(0, name).asks("root 0", due);
    }

    static void p18TheFirstAndTheLastHerder() {
        Scene.told("hul;hl;hulu;").asks("root 0", 2).asks("root 2", 3);
        Scene.told("h;h;h;h;h;hll;").asks("root 5", 1);
    }

    static void p18HerdersBelow0AreBad() {
        Scene.all().forEach(scene -> scene.refuses(Scene.BAD, "root -1", "root " + Scene.MIN));
    }

    static void p18HerdersBehindTheLastAreBad() {
        Scene.rich().refuses(Scene.BAD, "root 5", "root 6");
        Scene.full().refuses(Scene.BAD, "root 6", "root " + Scene.MAX);
    }

    /** "(.. 0: no NAME)" */
    static void p18NoNameIs0() {
        Scene.rich().asks("root 2", 0).asks("root 4", 0);
        Scene.told("hud;").asks("root 0", 0);
    }

    static void p18OneTurn() {
        root("u", 1);
        root("o", 1);
    }

    static void p18TwoTurns() {
        root("uu", 1);
        root("ul", 2);
    }

    /** "12 TURNS at most" */
    static void p18TwelveTurns() {
        root("uuuuuuuuuuuu", 1);
        root("ulululululul", 2);
        root("uliuliuliuli", 3);
        root("ulliulliulli", 4);
        root("uuuuuluuuuul", 6);
        root("uuuuuuuuuuul", 12);
        root("luuuuuuuuuuu", 12);
    }

    static void p18ElevenTurns() {
        root("uuuuuuuuuuu", 1);
        root("ulululululu", 11);
    }

    /** It is the NAME over and over to its end, not a part of it more. */
    static void p18NoPartIsLeftOver() {
        root("ululu", 5);
        root("uluu", 4);
        root("ullul", 5);
    }

    /** "(as it stands ..)": not as a RING. */
    static void p18AsItStands() {
        root("luur", 4);
        root("lur", 3);
    }
}
