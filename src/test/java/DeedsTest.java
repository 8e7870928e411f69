/** Promises 8 to 14: ties, loosens, bends, unties, adds, tears, undo. */
public final class DeedsTest {
    private static final Check check = new Check();

    public static void main(String[] args) {
        tying();
        loosening();
        bending();
        untying();
        theContract();
        undoing();
        refusedIsNotUndone();
        elevenDeeds();
        check.end();
    }

    private static void tying() {
        KnotNames x = Check.told("hul;h;");
        check.due("ties(0, 2)", x.ties(0, 2), 3);
        check.due("ties(0, 3) undoes it", x.ties(0, 3), 2);
        check.due("ties(1, 5)", x.ties(1, 5), 1);
        check.due("ties(1, 4)", x.ties(1, 4), 0);
        check.due("names", Check.all(x), "ul  |");
        check.due("ties(2, 0)", x.ties(2, 0), KnotNames.BAD);
        check.due("ties(-1, 0)", x.ties(-1, 0), KnotNames.BAD);
        check.due("ties(0, 6)", x.ties(0, 6), KnotNames.BAD);
        check.due("ties(0, -1)", x.ties(0, -1), KnotNames.BAD);
        Check.ties(x, 1, "ulululululul");
        check.due("twelve turns", x.name(1, -1), 12);
        check.due("a thirteenth", x.ties(1, 0), KnotNames.FULL);
        check.due("the same turn as a thirteenth", x.ties(1, 2), KnotNames.FULL);
        check.due("a bad thirteenth", x.ties(1, 6), KnotNames.BAD);
        check.due("nothing changes", Check.name(x, 1), "ulululululul");
        check.due("one that undoes the twelfth", x.ties(1, 3), 11);
        check.due("which turns undo which", pairs(), "");
    }

    /** The twos of turns that are taken out although they ought not to be, or the other way. */
    private static String pairs() {
        StringBuilder wrong = new StringBuilder();
        for (int a = 0; a < 6; a++) {
            for (int b = 0; b < 6; b++) {
                KnotNames x = Check.told("h;");
                x.ties(0, a);
                boolean undoes = "ud du lr rl io oi".contains("" + Check.TURNS.charAt(a) + Check.TURNS.charAt(b));
                if (x.ties(0, b) != (undoes ? 0 : 2)) {
                    wrong.append(a).append(b).append(' ');
                }
            }
        }
        return wrong.toString();
    }

    private static void loosening() {
        KnotNames x = Check.told("hulo;h;");
        check.due("loosens(0)", x.loosens(0), 5);
        check.due("loosens(0)", x.loosens(0), 2);
        check.due("loosens(0)", x.loosens(0), 0);
        check.due("loosens(0) without a name", x.loosens(0), KnotNames.STATE);
        check.due("loosens(1) without a name", x.loosens(1), KnotNames.STATE);
        check.due("loosens(2)", x.loosens(2), KnotNames.BAD);
        check.due("loosens(-1)", x.loosens(-1), KnotNames.BAD);
        check.due("now(3)", x.now(3), 3);
    }

    private static void bending() {
        KnotNames x = Check.told("hul;hri;h;huuuuuu;hlllllll;hdddddd;");
        check.due("bends(0, 1)", x.bends(0, 1), 2);
        check.due("the first one's, the other one's", Check.name(x, 0) + " " + Check.name(x, 1), "ui riul");
        check.due("bends(2, 0)", x.bends(2, 0), 2);
        check.due("none and a name", Check.name(x, 2) + " " + Check.name(x, 0), "ui ui");
        check.due("bends(0, 2) of names alike", x.bends(0, 2), 4);
        check.due("bends(3, 4)", x.bends(3, 4), KnotNames.FULL);
        check.due("bends(3, 5)", x.bends(3, 5), 0);
        check.due("both are none", x.name(5, -1), 0);
        check.due("bends(1, 1)", x.bends(1, 1), KnotNames.BAD);
        check.due("bends(6, 1)", x.bends(6, 1), KnotNames.BAD);
        check.due("bends(1, 6)", x.bends(1, 6), KnotNames.BAD);
        check.due("bends(-1, 1)", x.bends(-1, 1), KnotNames.BAD);
        check.due("bends(1, -1)", x.bends(1, -1), KnotNames.BAD);
        check.due("names", Check.all(x), "uiui riul uiui  lllllll  |");

        KnotNames twelve = Check.told("huuuuuu;hllllll;");
        check.due("twelve turns", twelve.bends(0, 1), 12);
        check.due("both", Check.all(twelve), "uuuuuullllll lllllluuuuuu |");

        KnotNames onlyOne = Check.told("huuuullll;hrrrruuuu;");
        // uuuullll rrrruuuu is 8 turns, rrrruuuu uuuullll is 16: only the other one's is too long
        check.due("the other one's is too long", onlyOne.bends(0, 1), KnotNames.FULL);
        check.due("the first one's is too long", onlyOne.bends(1, 0), KnotNames.FULL);
        check.due("nothing changes", Check.all(onlyOne), "uuuullll rrrruuuu |");
    }

    private static void untying() {
        KnotNames x = Check.told("hulo;h;");
        check.due("unties(0)", x.unties(0), 3);
        check.due("unties(0) without a name", x.unties(0), 0);
        check.due("unties(2)", x.unties(2), KnotNames.BAD);
        check.due("unties(-1)", x.unties(-1), KnotNames.BAD);
        check.due("names", Check.all(x), "  |");
        check.due("now(3)", x.now(3), 2);
    }

    private static void theContract() {
        KnotNames x = new KnotNames();
        check.due("adds(-1)", x.adds(-1), KnotNames.BAD);
        check.due("adds(6)", x.adds(6), KnotNames.BAD);
        for (int i = 0; i < 12; i++) {
            check.due("adds turn " + i, x.adds(i % 6), i + 1);
        }
        check.due("never tight of itself", Check.contract(x), "udlrioudlrio");
        check.due("a thirteenth", x.adds(0), KnotNames.FULL);
        check.due("a thirteenth that undoes", x.adds(4), KnotNames.FULL);
        check.due("a bad thirteenth", x.adds(6), KnotNames.BAD);
        check.due("tears()", x.tears(), 12);
        check.due("tears() of none", x.tears(), 0);
        check.due("adds again", x.adds(5), 1);
    }

    private static void undoing() {
        KnotNames x = Check.told("hul;hri;");
        x.adds(4);
        x.ties(0, 3);
        x.loosens(1);
        x.bends(0, 1);
        x.unties(0);
        x.tears();
        x.tears();
        check.due("all done", Check.all(x), " ru |");
        check.due("undo() of tears of none", x.undo(), 6);
        check.due("nothing comes back", Check.all(x), " ru |");
        check.due("undo() of tears", x.undo(), 5);
        check.due("the contract comes back", Check.all(x), " ru |i");
        check.due("undo() of unties", x.undo(), 4);
        check.due("the name comes back", Check.all(x), "ur ru |i");
        check.due("undo() of bends", x.undo(), 3);
        check.due("both come back", Check.all(x), "u r |i");
        check.due("undo() of loosens", x.undo(), 2);
        check.due("the turn comes back", Check.all(x), "u ri |i");
        check.due("undo() of ties", x.undo(), 1);
        check.due("the turn is untied", Check.all(x), "ul ri |i");
        check.due("undo() of adds", x.undo(), 0);
        check.due("as told", Check.all(x), "ul ri |");
        check.due("none more", x.undo(), KnotNames.STATE);
        x.ties(0, 2);
        check.due("after an undo another deed", x.undo(), 0);
        check.due("as told", Check.all(x), "ul ri |");
    }

    private static void refusedIsNotUndone() {
        KnotNames x = Check.told("huuuuuuuu;hllllllll;h;");
        x.ties(0, 9);
        x.ties(9, 0);
        x.loosens(2);
        x.loosens(7);
        x.bends(0, 1);
        x.bends(0, 0);
        x.unties(3);
        x.adds(6);
        check.due("now(3)", x.now(3), 0);
        check.due("undo()", x.undo(), KnotNames.STATE);
        // questions and images are no deeds either
        x.alike(0);
        x.keep(0);
        x.type('h');
        x.clear();
        x.rate(0, 0);
        check.due("now(3)", x.now(3), 0);
    }

    private static void elevenDeeds() {
        KnotNames x = Check.told("h;h;");
        for (int i = 1; i <= 10; i++) {
            x.ties(i % 2, 0);
            check.due("now(3)", x.now(3), i);
        }
        x.ties(1, 2);
        check.due("ten are known", x.now(3), 10);
        for (int left = 9; left >= 0; left--) {
            check.due("undo()", x.undo(), left);
        }
        check.due("the eleventh is lost", x.undo(), KnotNames.STATE);
        check.due("the first deed stays", Check.all(x), " u |");
        for (int i = 0; i < 25; i++) {
            x.adds(i % 6);
            x.tears();
        }
        x.adds(3);
        check.due("ten are known", x.now(3), 10);
        check.due("undo()", x.undo(), 9);
        check.due("undo()", x.undo(), 8);
        check.due("undone far behind", Check.contract(x), "u");
    }
}
