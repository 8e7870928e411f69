/** Promises 20 to 22: cold, mixed, newName. */
public final class ColdTest {
    private static final Check check = new Check();

    public static void main(String[] args) {
        coldHands();
        coldRefused();
        whoIsMixed();
        newNames();
        noNewName();
        newNameRefused();
        check.end();
    }

    private static void cold(KnotNames x, int a, int b, int p, long upper, long lower) {
        String call = "cold(" + a + ", " + b + ", " + p + ", ";
        check.due(call + "0)", x.cold(a, b, p, 0), upper);
        check.due(call + "1)", x.cold(a, b, p, 1), lower);
    }

    private static void coldHands() {
        KnotNames x = Check.told("hul;hdr;hur;h;h;huo;");
        cold(x, 0, 1, 3, 9, 100);
        cold(x, 0, 0, 3, 49, 100);
        cold(x, 0, 2, 3, 21, 100);
        cold(x, 2, 0, 3, 0, 1);
        cold(x, 0, 5, 3, 0, 1);
        cold(x, 0, 3, 3, 0, 1);
        cold(x, 3, 4, 7, 1, 1);
        cold(x, 3, 3, 10, 1, 1);
        cold(x, 0, 0, 0, 1, 1);
        cold(x, 0, 1, 10, 1, 1);
        cold(x, 0, 0, 10, 0, 1);
        cold(x, 0, 1, 0, 0, 1);
        cold(x, 0, 1, 4, 4, 25);
        for (int turn = 0; turn < 6; turn++) {
            for (int other = 0; other < 6; other++) {
                KnotNames y = Check.told("h" + Check.TURNS.charAt(turn) + ";h" + Check.TURNS.charAt(other) + ";");
                int tenths = turn == other ? 7 : other == (turn + 1) % 6 ? 3 : 0;
                cold(y, 0, 1, 3, tenths, tenths == 0 ? 1 : 10);
            }
        }
        KnotNames twelve = Check.told("huuuuuuuu;");
        Check.ties(twelve, 0, "uuuu");
        cold(twelve, 0, 0, 1, 282429536481L, 1000000000000L);
        cold(twelve, 0, 0, 5, 1, 4096);
        cold(twelve, 0, 0, 7, 531441, 1000000000000L);
    }

    private static void coldRefused() {
        KnotNames x = Check.told("hu;hl;");
        check.due("cold(2, ..)", x.cold(2, 0, 1, 0), KnotNames.BAD);
        check.due("cold(-1, ..)", x.cold(-1, 0, 1, 0), KnotNames.BAD);
        check.due("cold(0, 2, ..)", x.cold(0, 2, 1, 0), KnotNames.BAD);
        check.due("cold(0, -1, ..)", x.cold(0, -1, 1, 0), KnotNames.BAD);
        check.due("cold(.., -1, ..)", x.cold(0, 1, -1, 0), KnotNames.BAD);
        check.due("cold(.., 11, ..)", x.cold(0, 1, 11, 0), KnotNames.BAD);
        check.due("cold(.., -1)", x.cold(0, 1, 1, -1), KnotNames.BAD);
        check.due("cold(.., 2)", x.cold(0, 1, 1, 2), KnotNames.BAD);
    }

    private static void whoIsMixed() {
        KnotNames x = Check.told("huuuu;huuul;huull;hullu;huuu;h;");
        check.due("mixed(0, 0)", x.mixed(0, 0), 0b000001);
        check.due("mixed(0, 1)", x.mixed(0, 1), 0b000011);
        check.due("mixed(0, 2)", x.mixed(0, 2), 0b001111);
        check.due("mixed(0, 12)", x.mixed(0, 12), 0b001111);
        check.due("mixed(3, 1)", x.mixed(3, 1), 0b001000);
        check.due("by places, mixed(3, 2)", x.mixed(3, 2), 0b001101);
        check.due("mixed(3, 3)", x.mixed(3, 3), 0b001111);
        check.due("mixed(4, 12)", x.mixed(4, 12), 0b010000);
        check.due("no name", x.mixed(5, 0), 0b100000);
        x.unties(4);
        check.due("no names are of a like length", x.mixed(5, 0), 0b110000);
        check.due("mixed(6, 0)", x.mixed(6, 0), KnotNames.BAD);
        check.due("mixed(-1, 0)", x.mixed(-1, 0), KnotNames.BAD);
        check.due("mixed(0, -1)", x.mixed(0, -1), KnotNames.BAD);
        check.due("mixed(0, 13)", x.mixed(0, 13), KnotNames.BAD);
    }

    private static String first(KnotNames x, int n, int d) {
        StringBuilder first = new StringBuilder();
        for (int k = 0; k < n; k++) {
            first.append(Check.TURNS.charAt(x.newName(n, d, k)));
        }
        return first.toString();
    }

    private static void newNames() {
        KnotNames none = Check.told("h;hllllll;");
        int rows = 6;
        for (int n = 1; n <= 4; n++) {
            for (int d = 1; d <= 4; d++) {
                check.due("no names of " + n + ", d " + d, none.newName(n, d, -1), rows);
                check.due("the first", first(none, n, d), "uuuu".substring(0, n));
            }
            rows *= 5;
        }
        KnotNames x = Check.told("hu;hd;huu;hllu;hiiii;hulul;");
        check.due("n 1", x.newName(1, 1, -1), 4);
        check.due("the first", first(x, 1, 1), "l");
        check.due("n 2, d 1", x.newName(2, 1, -1), 29);
        check.due("ud is not tight", first(x, 2, 1), "ul");
        // neither turn is u; of the 25 such rows lr, rl, io, oi are not tight
        check.due("n 2, d 2", x.newName(2, 2, -1), 21);
        check.due("the first", first(x, 2, 2), "dd");
        check.due("n 3, d 3", first(x, 3, 3), "uul");
        check.due("n 4, d 4", first(x, 4, 4), "dddd");
    }

    private static void noNewName() {
        KnotNames x = Check.told("hu;hd;hl;hr;hi;ho;");
        check.due("how many", x.newName(1, 1, -1), 0);
        check.due("its turn", x.newName(1, 1, 0), KnotNames.NONE);
        check.due("further than it is long", x.newName(1, 2, 0), KnotNames.NONE);
        KnotNames one = Check.told("huu;");
        check.due("further than it is long", one.newName(2, 3, -1), 0);
        check.due("its turns", one.newName(2, 3, 0), KnotNames.NONE);
        check.due("its turns", one.newName(2, 3, 1), KnotNames.NONE);
        check.due("a turn too many comes first", one.newName(2, 3, 2), KnotNames.BAD);
        check.due("a first one", one.newName(2, 2, 0), 1);
        check.due("and none behind it", one.newName(2, 3, 0), KnotNames.NONE);
        KnotNames just = Check.told("hu;hd;hl;hr;ho;");
        check.due("just one", just.newName(1, 1, -1), 1);
        check.due("it is i", just.newName(1, 1, 0), 4);
    }

    private static void newNameRefused() {
        KnotNames x = new KnotNames();
        check.due("newName(0, 1, -1)", x.newName(0, 1, -1), KnotNames.BAD);
        check.due("newName(5, 1, -1)", x.newName(5, 1, -1), KnotNames.BAD);
        check.due("newName(1, 0, -1)", x.newName(1, 0, -1), KnotNames.BAD);
        check.due("newName(1, 5, -1)", x.newName(1, 5, -1), KnotNames.BAD);
        check.due("newName(4, 4, 4)", x.newName(4, 4, 4), KnotNames.BAD);
        check.due("newName(4, 4, -2)", x.newName(4, 4, -2), KnotNames.BAD);
        check.due("newName(4, 4, 3)", x.newName(4, 4, 3), 0);
    }
}
