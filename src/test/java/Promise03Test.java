/** Promise 3: clear. */
public final class Promise03Test {
    public static void main(String[] args) {
        Trial.runAll(Promise03Test.class);
    }

    static void p03AnEmptyTextHadNoLetters() {
        Scene.fresh().asks("clear", 0);
        Scene.told("hul;").asks("clear", 0);
    }

    static void p03OneLetter() {
        Scene.fresh().then("type 0").answers("clear", 1).then("clear").answers("clear", 0);
    }

    /** "a text (200 letters at most)" */
    static void p03AFullTextHad200() {
        Scene.full().answers("clear", 200).then("clear").answers("count 1", 0).answers("type 104", 1);
    }

    static void p03ARefusedLetterIsNotOfTheText() {
        Scene.fresh().times(205, "type 32").answers("clear", 200);
        Scene.fresh().then("type 104", "type 256", "type -1").answers("clear", 1);
    }

    /** "THE TEXT is empty": and nothing else is. */
    static void p03NothingElseChanges() {
        Scene.rich().then("clear").typed("hul").isSeenAs(Scene.rich());
        Scene.rich().then("clear").reads("ul ri  ul  |ui").answers("now 3", 5).answers("trace", 1011);
    }

    static void p03NoLetterIsLeft() {
        Scene.fresh().typed("hul").then("clear").isSeenAs(Scene.fresh());
        Scene.fresh().typed("x").then("clear").typed("h;").answers("camp", 1);
    }

    /** A text with a fault is still there behind camp(). */
    static void p03AFaultyTextIsCleared() {
        Scene.fresh().typed("hx;").then("camp").answers("clear", 3);
    }
}
