/** Promises 1 to 7 and 31: a new object, type, clear, camp, name, contract, now, count. */
public final class CampTest {
    private static final Check check = new Check();

    public static void main(String[] args) {
        aNewObject();
        typing();
        clearing();
        telling();
        faults();
        tellingAnew();
        reading();
        check.end();
    }

    private static void aNewObject() {
        KnotNames x = new KnotNames();
        check.due("new count(0)", x.count(0), 0);
        check.due("new count(1)", x.count(1), 0);
        check.due("new contract(-1)", x.contract(-1), 0);
        for (int what = 0; what < 4; what++) {
            check.due("new now(" + what + ")", x.now(what), 0);
        }
        check.due("new undo()", x.undo(), KnotNames.STATE);
        check.due("new back(0)", x.back(0), KnotNames.STATE);
        check.due("new back(1)", x.back(1), KnotNames.STATE);
        check.due("new trace()", x.trace(), 0);
        check.due("new name(0, -1)", x.name(0, -1), KnotNames.BAD);
        check.due("new clear()", x.clear(), 0);
        check.due("new keep(0)", x.keep(0), 0);
        check.due("new back(0) kept", x.back(0), 0);
        check.due("new pulls(1)", x.pulls(1), 0);
    }

    private static void typing() {
        KnotNames x = new KnotNames();
        check.due("type(0)", x.type(0), 1);
        check.due("type(255)", x.type(255), 2);
        check.due("type(-1)", x.type(-1), KnotNames.BAD);
        check.due("type(256)", x.type(256), KnotNames.BAD);
        check.due("type(MIN)", x.type(Integer.MIN_VALUE), KnotNames.BAD);
        check.due("type(104 + 65536)", x.type(104 + 65536), KnotNames.BAD);
        check.due("count(1)", x.count(1), 2);
        for (int i = 3; i <= 200; i++) {
            check.due("type letter " + i, x.type(32), i);
        }
        check.due("the 201st letter", x.type(32), KnotNames.FULL);
        check.due("a bad 201st letter", x.type(256), KnotNames.BAD);
        check.due("count(1)", x.count(1), 200);
    }

    private static void clearing() {
        KnotNames x = Check.told("hu;");
        Check.type(x, "hd;hl");
        check.due("clear()", x.clear(), 5);
        check.due("clear() again", x.clear(), 0);
        check.due("the camp stays", Check.all(x), "u |");
        check.due("type after clear()", x.type('h'), 1);
    }

    private static void telling() {
        KnotNames x = new KnotNames();
        Check.type(x, "  h u d l;h;  h i  o u ;hudlrioud;");
        check.due("camp()", x.camp(), 4);
        check.due("names told", Check.all(x), "l  u  |");
        check.due("the text is empty", x.count(1), 0);
        check.due("an empty text tells no herders", x.camp(), 0);
        check.due("count(0)", x.count(0), 0);
        Check.type(x, "   ");
        check.due("blanks tell no herders", x.camp(), 0);
        StringBuilder long200 = new StringBuilder("h uuuuuuuu;".repeat(6));
        while (long200.length() < 200) {
            long200.append(' ');
        }
        Check.type(x, long200.toString());
        check.due("200 letters", x.camp(), 6);
        check.due("eight turns each", x.now(2), 48);
        Check.type(x, "hullrdi;");
        check.due("camp()", x.camp(), 1);
        check.due("only beside one another", Check.name(x, 0), "uldi");
    }

    private static void faulty(String text, int fault) {
        KnotNames x = Check.told("hul;hr;");
        x.adds(3);
        x.keep(1);
        x.ties(0, 2);
        Check.type(x, text);
        check.due("camp() of '" + text + "'", x.camp(), -10 - fault);
        check.due("the text stays", x.count(1), text.length());
        check.due("the names stay", Check.all(x), "ull r |r");
        check.due("what can be undone stays", x.now(3), 2);
        check.due("the image stays", x.back(1), 3);
    }

    private static void faults() {
        faulty("u", 0);
        faulty(";", 0);
        faulty("  ;", 2);
        faulty("h", 1);
        faulty("h   ", 4);
        faulty("hu;h", 4);
        faulty("hh;", 1);
        faulty("hu h;", 3);
        faulty("h;;", 2);
        faulty("h;u;", 2);
        faulty("huuuuuuuuu;", 9);
        faulty("huuuuuuuu u;", 10);
        faulty("hudududdud;", 9);
        faulty("huuuuuuuux;", 9);
        faulty("h;h;h;h;h;h;h;", 12);
        faulty("h;h;h;h;h;h;  h", 14);
        faulty("h;h;h;h;h;h;u", 12);
        faulty("hx;", 1);
        faulty("x", 0);
        faulty("Hu;", 0);
        faulty("hU;", 1);
        faulty("hu\t;", 2);
        faulty("hu" + (char) 0 + ";", 2);
        faulty("hu" + (char) 255 + ";", 2);
        faulty("h;h u l  q u;", 9);
        faulty("h" + " ".repeat(199), 200);
        faulty(" ".repeat(199) + "h", 200);
        faulty(" ".repeat(199) + "u", 199);
    }

    private static void tellingAnew() {
        KnotNames x = Check.told("hul;hr;hi;");
        Check.adds(x, "udl");
        x.keep(0);
        x.keep(1);
        x.rate(1, 0);
        Check.type(x, "hd;");
        check.due("camp() anew", x.camp(), 1);
        check.due("told anew", Check.all(x), "d |");
        check.due("no contract", x.contract(-1), 0);
        check.due("nothing can be undone", x.undo(), KnotNames.STATE);
        check.due("now(3)", x.now(3), 0);
        check.due("image 0 is gone", x.back(0), KnotNames.STATE);
        check.due("image 1 is gone", x.back(1), KnotNames.STATE);
        check.due("the herders before are gone", x.name(1, -1), KnotNames.BAD);
        check.due("the trace goes on", x.trace(), 11);
        Check.type(x, "h;h;");
        check.due("camp() once more", x.camp(), 2);
        check.due("no old name is left", Check.all(x), "  |");
    }

    private static void reading() {
        KnotNames x = Check.told("hudlrioud;hul;h;hul;");
        check.due("name(1, -1)", x.name(1, -1), 2);
        check.due("name(1, 0)", x.name(1, 0), 0);
        check.due("name(1, 1)", x.name(1, 1), 2);
        check.due("name(1, 2)", x.name(1, 2), KnotNames.BAD);
        check.due("name(1, -2)", x.name(1, -2), KnotNames.BAD);
        check.due("name(2, 0)", x.name(2, 0), KnotNames.BAD);
        check.due("name(4, -1)", x.name(4, -1), KnotNames.BAD);
        check.due("name(-1, -1)", x.name(-1, -1), KnotNames.BAD);
        Check.adds(x, "oiirl");
        check.due("contract", Check.contract(x), "oiirl");
        check.due("contract(5)", x.contract(5), KnotNames.BAD);
        check.due("contract(-2)", x.contract(-2), KnotNames.BAD);
        check.due("now(0)", x.now(0), 0b1010);
        check.due("now(1)", x.now(1), 2);
        check.due("now(2)", x.now(2), 4);
        check.due("now(3)", x.now(3), 5);
        check.due("now(4)", x.now(4), KnotNames.BAD);
        check.due("now(-1)", x.now(-1), KnotNames.BAD);
        x.type('h');
        check.due("count(0)", x.count(0), 4);
        check.due("count(1)", x.count(1), 1);
        check.due("count(2)", x.count(2), KnotNames.BAD);
        check.due("count(-1)", x.count(-1), KnotNames.BAD);
        KnotNames y = Check.told("hu;hd;hl;hr;hi;ho;");
        for (int h = 0; h < 6; h++) {
            check.due("the turn of herder " + h, y.name(h, 0), h);
        }
        check.due("six names", y.now(1), 6);
        check.due("all have names", y.now(0), 0b111111);
    }
}
