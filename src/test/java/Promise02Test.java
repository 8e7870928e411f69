/** Promise 2: type. */
public final class Promise02Test {
    public static void main(String[] args) {
        Trial.runAll(Promise02Test.class);
    }

    /** "A letter (0 .. 255)" */
    static void p02Letter0IsTheLowest() {
        Scene.fresh().answers("type 0", 1);
        Scene.rich().answers("type 0", 4);
    }

    static void p02LettersBelow0AreBad() {
        Scene.all().forEach(scene -> scene.refuses(Scene.BAD, "type -1", "type -152", "type " + Scene.MIN));
    }

    static void p02Letter255IsTheHighest() {
        Scene.fresh().answers("type 255", 1);
        Scene.rich().answers("type 255", 4);
    }

    static void p02LettersAbove255AreBad() {
        Scene.all().forEach(scene -> scene.refuses(Scene.BAD, "type 256", "type " + Scene.MAX));
    }

    /** A number that is h by its lowest bits is no letter for that. */
    static void p02NumbersDoNotWrapAround() {
        Scene.fresh().refuses(Scene.BAD, "type " + (256 + 'h'), "type " + (65536 + 'h'));
    }

    static void p02EachLetterBetweenComes() {
        Scene scene = Scene.fresh();
        for (int letter = 0; letter <= 255; letter++) {
            scene.answers("type " + letter, 1);
        }
    }

    static void p02TheEmptyTextsFirstLetter() {
        Scene.fresh().answers("type 32", 1).then("type 32").answers("type 32", 2);
    }

    /** "a text (200 letters at most)" */
    static void p02The200thLetterComes() {
        Scene.fresh().times(199, "type 104").answers("type 104", 200).then("type 104").answers("count 1", 200);
    }

    static void p02The201stLetterIsFull() {
        Scene.fresh().times(200, "type 104").refuses(Scene.FULL, "type 104", "type 0", "type 255");
        Scene.full().refuses(Scene.FULL, "type 32", "type 59");
    }

    /** "the first of these: BAD .., FULL" */
    static void p02OfAFullTextABadLetterIsBad() {
        Scene.fresh().times(200, "type 104").refuses(Scene.BAD, "type -1", "type 256");
    }

    static void p02AnEmptiedTextTakes200Again() {
        Scene again = Scene.fresh().times(200, "type 32").then("clear").times(199, "type 32");
        again.answers("type 32", 200).then("type 32").answers("type 32", Scene.FULL);
        Scene read = Scene.fresh().times(200, "type 32").then("camp").times(199, "type 32");
        read.answers("type 32", 200).then("type 32").answers("type 32", Scene.FULL);
    }

    static void p02ALetterIsNoDeed() {
        Scene.rich().then("type 59").answers("now 3", 5).reads("ul ri  ul  |ui");
    }
}
