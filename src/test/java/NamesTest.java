/** Promises 15 to 19: alike, ring, way, root, order. */
public final class NamesTest {
    private static final Check check = new Check();

    public static void main(String[] args) {
        whoIsAlike();
        whoseRingsAreOne();
        ways();
        roots();
        orders();
        noSuchHerder();
        check.end();
    }

    private static void whoIsAlike() {
        KnotNames x = Check.told("hul;hu;h;hulio;hud;hlu;");
        check.due("alike(0)", x.alike(0), 0b001001);
        check.due("alike(3)", x.alike(3), 0b001001);
        check.due("a start is not the same", x.alike(1), 0b000010);
        check.due("no name", x.alike(2), 0b010100);
        check.due("turned round", x.alike(5), 0b100000);
    }

    private static void whoseRingsAreOne() {
        KnotNames x = Check.told("huli;hliu;hiul;hilu;huli;h;");
        check.due("begun elsewhere", x.ring(0), 0b010111);
        check.due("turned round", x.ring(3), 0b001000);
        check.due("no name", x.ring(5), 0b100000);
        KnotNames one = Check.told("hlur;hu;hiluro;hd;hluur;huu;");
        check.due("over and over", one.ring(0), 0b000111);
        check.due("from the other side", one.ring(2), 0b000111);
        check.due("the undoing one is another", one.ring(3), 0b001000);
        check.due("of two turns", one.ring(4), 0b110000);
        KnotNames deep = Check.told("huliird;hii;huliuuord;huu;huliuord;hu;");
        check.due("two go from each end", deep.ring(0), 0b000011);
        check.due("three go, two are left", deep.ring(3), 0b001100);
        check.due("three go, one is left", deep.ring(4), 0b110000);
        KnotNames twice = Check.told("hulul;hlulu;hullu;huull;hul;");
        check.due("a ring of repeated turns", twice.ring(0), 0b00011);
        check.due("like turns, another ring", twice.ring(2), 0b01100);
        check.due("the half is another", twice.ring(4), 0b10000);
    }

    private static void ways() {
        KnotNames x = Check.told("huli;hulo;hul;h;hd;huli;");
        check.due("way(0, 1)", x.way(0, 1), 2);
        check.due("way(0, 2)", x.way(0, 2), 1);
        check.due("way(2, 0)", x.way(2, 0), 1);
        check.due("way(0, 3)", x.way(0, 3), 3);
        check.due("way(3, 0)", x.way(3, 0), 3);
        check.due("way(0, 4)", x.way(0, 4), 4);
        check.due("way(0, 5)", x.way(0, 5), 0);
        check.due("way(0, 0)", x.way(0, 0), 0);
        check.due("way(3, 3)", x.way(3, 3), 0);
    }

    private static void roots() {
        KnotNames x = Check.told("hulululul;huuu;hulu;h;hullull;hluur;");
        check.due("root of ulululul", x.root(0), 2);
        check.due("root of uuu", x.root(1), 1);
        check.due("root of ulu", x.root(2), 3);
        check.due("root of none", x.root(3), 0);
        check.due("root of ullull", x.root(4), 3);
        check.due("as it stands, not as a ring", x.root(5), 4);
        Check.ties(x, 2, "iului");
        check.due("root of uluiului", x.root(2), 4);
        Check.ties(x, 2, "ului");
        check.due("root of twelve turns", x.root(2), 4);
        Check.ties(x, 4, "ullull");
        check.due("root of twelve turns", x.root(4), 3);
        x.loosens(4);
        check.due("root of eleven turns", x.root(4), 11);
    }

    private static void orders() {
        KnotNames x = Check.told("hll;ho;hlu;h;hll;hd;");
        int[] due = {4, 2, 3, 0, 5, 1};
        for (int h = 0; h < 6; h++) {
            check.due("order(" + h + ")", x.order(h), due[h]);
        }
        KnotNames none = Check.told("h;h;h;");
        for (int h = 0; h < 3; h++) {
            check.due("none, order(" + h + ")", none.order(h), h);
        }
        check.due("alone", Check.told("hu;").order(0), 0);
    }

    private static void noSuchHerder() {
        KnotNames x = Check.told("hu;hl;");
        for (int h : new int[] {-1, 2, 6, Integer.MIN_VALUE, Integer.MAX_VALUE}) {
            check.due("alike", x.alike(h), KnotNames.BAD);
            check.due("ring", x.ring(h), KnotNames.BAD);
            check.due("way from", x.way(h, 0), KnotNames.BAD);
            check.due("way to", x.way(0, h), KnotNames.BAD);
            check.due("root", x.root(h), KnotNames.BAD);
            check.due("order", x.order(h), KnotNames.BAD);
        }
    }
}
