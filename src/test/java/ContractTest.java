/** Promises 23 to 25: pulls, lives, next. */
public final class ContractTest {
    private static final Check check = new Check();

    public static void main(String[] args) {
        pullingOut();
        readingLives();
        noLives();
        mostLives();
        refused();
        check.end();
    }

    private static void pulls(String contract, int out, int left, int mend, int moves) {
        KnotNames x = new KnotNames();
        Check.adds(x, contract);
        check.due(contract + ": pulls(0)", x.pulls(0), out);
        check.due(contract + ": pulls(1)", x.pulls(1), left);
        check.due(contract + ": pulls(2)", x.pulls(2), mend);
        check.due(contract + ": pulls(3)", x.pulls(3), moves);
        check.due(contract + ": stays", Check.contract(x), contract);
    }

    private static void pullingOut() {
        pulls("", 1, 0, 0, 0);
        pulls("u", 0, 1, 1, 0);
        pulls("ud", 1, 0, 0, 1);
        pulls("du", 1, 0, 0, 1);
        pulls("uu", 0, 2, 2, 0);
        pulls("ul", 0, 2, 2, 0);
        pulls("ulrd", 1, 0, 0, 2);
        pulls("uldr", 0, 4, 2, 0);
        pulls("uud", 0, 1, 1, 1);
        pulls("udu", 0, 1, 1, 1);
        pulls("udlrio", 1, 0, 0, 3);
        pulls("uliord", 1, 0, 0, 3);
        pulls("uldriouldrio", 0, 8, 4, 2);
        pulls("ulioulrdiord", 1, 0, 0, 6);
        pulls("uuuuuudddddd", 1, 0, 0, 6);
        pulls("uuuuuuuuuuuu", 0, 12, 12, 0);
        pulls("uliulidrodro", 0, 12, 6, 0);
        pulls("uldlurdr", 0, 8, 2, 0);
    }

    private static void readingLives() {
        KnotNames x = Check.told("hul;hi;hli;hu;h;");
        Check.adds(x, "uoili");
        // uli is ul i, u li, and each of them with the herder of no name in it anywhere
        check.due("lives(-1)", x.lives(-1), 8);
        check.due("lives(0)", x.lives(0), 0);
        check.due("lives(1)", x.lives(1), 1);
        check.due("lives(2)", x.lives(2), -5);
        check.due("lives(5)", x.lives(5), -5);
        check.due("next()", x.next(), 4);
        KnotNames fewest = Check.told("hu;hl;hi;huli;");
        Check.adds(fewest, "uli");
        check.due("fewest first: lives(0)", fewest.lives(0), 3);
        check.due("lives(1)", fewest.lives(1), -5);
        check.due("how many", fewest.lives(-1), 2);
        check.due("of several the lowest", fewest.next(), 0);
        KnotNames undone = Check.told("hr;hul;hi;ho;");
        Check.adds(undone, "u");
        // ul r, and i o or o i before, between or behind them
        check.due("undone by one another", undone.lives(-1), 7);
        check.due("the first: lives(0)", undone.lives(0), 1);
        check.due("lives(1)", undone.lives(1), 0);
        check.due("next()", undone.next(), 0);
        KnotNames six = Check.told("hu;hl;hi;ho;hr;hd;");
        Check.adds(six, "uliord");
        check.due("it pulls out", six.pulls(0), 1);
        check.due("the first of two", six.lives(0), 0);
        check.due("and his", six.lives(1), 5);
        KnotNames asked = Check.told("hu;hl;hi;");
        Check.adds(asked, "l");
        check.due("next() before lives()", asked.next(), 1);
        asked.tears();
        Check.adds(asked, "ui");
        check.due("next() anew", asked.next(), 0);
        asked.tears();
        Check.adds(asked, "i");
        check.due("next() once more", asked.next(), 2);
        asked.tears();
        check.due("next() of none", asked.next(), KnotNames.NONE);
    }

    private static void noLives() {
        KnotNames x = new KnotNames();
        check.due("no herders, lives(-1)", x.lives(-1), 0);
        check.due("no herders, lives(0)", x.lives(0), KnotNames.NONE);
        check.due("no herders, next()", x.next(), KnotNames.NONE);
        KnotNames y = Check.told("hu;hl;");
        check.due("one at least", y.lives(-1), 0);
        check.due("lives(0)", y.lives(0), KnotNames.NONE);
        check.due("lives(3)", y.lives(3), KnotNames.NONE);
        check.due("next()", y.next(), KnotNames.NONE);
        Check.adds(y, "uu");
        check.due("each once at most", y.lives(-1), 0);
        check.due("next()", y.next(), KnotNames.NONE);
    }

    private static void mostLives() {
        KnotNames x = Check.told("h;h;h;h;h;h;");
        check.due("all rows there are", x.lives(-1), 6 + 30 + 120 + 360 + 720 + 720);
        check.due("the first", x.lives(0), 0);
        check.due("it is one herder", x.lives(1), -5);
        check.due("next()", x.next(), 0);
        KnotNames all = Check.told("hu;hu;hu;hu;hu;hu;");
        Check.adds(all, "uuuuuu");
        check.due("of all six", all.lives(-1), 720);
        for (int k = 0; k < 6; k++) {
            check.due("by number", all.lives(k), k);
        }
        check.due("lives(6)", all.lives(6), -5);
        check.due("lives(MAX)", all.lives(Integer.MAX_VALUE), -5);
        KnotNames twelve = Check.told("huuuuuuuu;hllllllll;hiiiiiiii;huuuuuuuu;hllllllll;hiiiiiiii;");
        for (int h = 0; h < 6; h++) {
            Check.ties(twelve, h, ("" + Check.TURNS.charAt(twelve.name(h, 0))).repeat(4));
        }
        Check.adds(twelve, "uuuuuuuuuuuu");
        check.due("names of twelve turns", twelve.lives(-1), 2);
        check.due("the first", twelve.lives(0), 0);
    }

    private static void refused() {
        KnotNames x = Check.told("hu;");
        check.due("pulls(-1)", x.pulls(-1), KnotNames.BAD);
        check.due("pulls(4)", x.pulls(4), KnotNames.BAD);
        check.due("lives(-2)", x.lives(-2), KnotNames.BAD);
        check.due("lives(MIN)", x.lives(Integer.MIN_VALUE), KnotNames.BAD);
    }
}
