/** Promise 7: now. */
public final class Promise07Test {
    public static void main(String[] args) {
        Trial.runAll(Promise07Test.class);
    }

    static void p07The4ThatCanBeAsked() {
        Scene.rich().asks("now 0", 0b01011).asks("now 1", 3).asks("now 2", 6).asks("now 3", 5);
    }

    static void p07NumbersBelow0AreBad() {
        Scene.all().forEach(scene -> scene.refuses(Scene.BAD, "now -1", "now " + Scene.MIN));
    }

    static void p07NumbersAbove3AreBad() {
        Scene.all().forEach(scene -> scene.refuses(Scene.BAD, "now 4", "now " + Scene.MAX));
    }

    /** "0 HERDERS with a NAME (bits)" */
    static void p07AllOrNoneHaveNames() {
        Scene.full().asks("now 0", 0b111111);
        Scene.told("h;h;h;h;h;h;").asks("now 0", 0);
        Scene.told("h;h;h;h;h;hu;").asks("now 0", 0b100000);
        Scene.told("hu;h;h;h;h;h;").asks("now 0", 0b000001);
        Scene.told("hud;hu;").asks("now 0", 0b10);
    }

    /** "1 NAMES there are (unlike ones, none too)" */
    static void p07NoneIsANameToo() {
        Scene.told("h;").asks("now 1", 1);
        Scene.told("h;h;").asks("now 1", 1);
        Scene.told("h;hu;h;").asks("now 1", 2);
        Scene.told("hu;hl;").asks("now 1", 2);
    }

    static void p07WithoutHerdersThereAreNoNames() {
        Scene.fresh().asks("now 1", 0);
    }

    static void p07OnlyUnlikeNamesAreCounted() {
        Scene.told("hu;hu;hu;hu;hu;hu;").asks("now 1", 1);
        Scene.full().asks("now 1", 6);
        Scene.told("hu;hl;hu;hl;hud;h;").asks("now 1", 3);
    }

    /** "2 TURNS of all NAMES" */
    static void p07TurnsOfAllNames() {
        Scene.fresh().asks("now 2", 0);
        Scene.told("h;h;").asks("now 2", 0);
        Scene.full().asks("now 2", 72);
        Scene.told("hu;hul;hulud;").asks("now 2", 5);
    }

    /** "3 how many may be UNDONE": "10 are known" */
    static void p07HowManyMayBeUndone() {
        Scene.told("h;").asks("now 3", 0);
        Scene.fresh().times(1, "tears").asks("now 3", 1);
        Scene.fresh().times(9, "tears").asks("now 3", 9);
        Scene.fresh().times(10, "tears").asks("now 3", 10);
        Scene.fresh().times(11, "tears").asks("now 3", 10);
        Scene.fresh().times(25, "tears").asks("now 3", 10);
    }

    static void p07WhatIsUndoneCanNotBeUndoneAgain() {
        Scene.fresh().times(11, "tears").then("undo").asks("now 3", 9);
        Scene.fresh().then("tears", "undo").asks("now 3", 0);
    }
}
