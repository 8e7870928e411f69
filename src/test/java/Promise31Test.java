/** Promise 31: count. */
public final class Promise31Test {
    public static void main(String[] args) {
        Trial.runAll(Promise31Test.class);
    }

    static void p31TheTwoThatCanBeAsked() {
        Scene.rich().asks("count 0", 5).asks("count 1", 3);
    }

    static void p31NumbersBelow0AreBad() {
        Scene.all().forEach(scene -> scene.refuses(Scene.BAD, "count -1", "count " + Scene.MIN));
    }

    static void p31NumbersAbove1AreBad() {
        Scene.all().forEach(scene -> scene.refuses(Scene.BAD, "count 2", "count " + Scene.MAX));
    }

    /** "HERDERS 0 .. (6 at most)" */
    static void p31HerdersFromNoneToSix() {
        for (int herders = 0; herders <= 6; herders++) {
            Scene.told("h;".repeat(herders)).asks("count 0", herders);
        }
        Scene.told("hu;h;").typed("h;h;h;h;h;h;h;").then("camp").asks("count 0", 2);
    }

    static void p31HerdersWithoutANameCount() {
        Scene.told("hu;h;").then("unties 0").asks("count 0", 2);
    }

    /** "a text (200 letters at most)" */
    static void p31LettersFromNoneTo200() {
        Scene.fresh().asks("count 1", 0);
        Scene.fresh().times(1, "type 0").asks("count 1", 1);
        Scene.fresh().times(199, "type 255").asks("count 1", 199);
        Scene.fresh().times(200, "type 255").asks("count 1", 200);
        Scene.fresh().times(201, "type 255").asks("count 1", 200);
        Scene.fresh().then("type 256", "type -1").asks("count 1", 0);
    }

    static void p31ATextThatWasReadHasNone() {
        Scene.told("hu;").asks("count 1", 0);
        Scene.fresh().typed("hu").then("camp").asks("count 1", 2);
        Scene.fresh().typed("hu").then("clear").asks("count 1", 0);
    }
}
