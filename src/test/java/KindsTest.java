/** Promises 28 to 30 and 32: rate, keep, back, trace. */
public final class KindsTest {
    private static final Check check = new Check();

    public static void main(String[] args) {
        rates();
        rateRefused();
        images();
        imagesRefused();
        nothingUndoneBehindBack();
        check.end();
    }

    private static void rate(KnotNames x, int kind, int h, int due, long traced) {
        long before = x.trace();
        String call = "rate(" + kind + ", " + h + ")";
        check.due(call, x.rate(kind, h), due);
        check.due(call + " adds to the trace", x.trace() - before, traced);
    }

    private static void rates() {
        KnotNames x = Check.told("hulu;huloo;h;hulu;hioi;hulul;");
        rate(x, 0, 1, 4, 1);
        rate(x, 1, 1, 4 + 5, 11);
        rate(x, 2, 1, 4 - 1, 101);
        rate(x, 3, 1, 2 * (4 + 5), 1011);
        rate(x, 4, 1, 4 - 1 + 1, 10101);
        rate(x, 5, 1, 4 + 4, 100001);
        rate(x, 0, 2, 0, 1);
        rate(x, 1, 2, 0, 11);
        rate(x, 2, 2, -1, 101);
        rate(x, 3, 2, 0, 1011);
        rate(x, 4, 2, -1 + 2, 10101);
        rate(x, 5, 2, 0, 100001);
        rate(x, 2, 0, 3 - 2, 101);
        rate(x, 4, 3, 3 - 2 + 3, 10101);
        rate(x, 3, 4, 2 * (1 + 4), 1011);
        rate(x, 5, 5, 4 + 2, 100001);
        check.due("trace() is a sum", x.trace(), 2 * 111226 + 101 + 10101 + 1011 + 100001);
    }

    private static void rateRefused() {
        KnotNames x = Check.told("hu;");
        for (int kind : new int[] {-1, 6, Integer.MIN_VALUE, Integer.MAX_VALUE}) {
            check.due("no such kind", x.rate(kind, 0), KnotNames.NO);
        }
        for (int h : new int[] {-1, 1, Integer.MIN_VALUE, Integer.MAX_VALUE}) {
            check.due("no such herder", x.rate(0, h), KnotNames.NO);
        }
        check.due("nothing is asked", x.trace(), 0);
    }

    private static void images() {
        KnotNames x = Check.told("hul;hr;");
        x.adds(4);
        check.due("keep(0)", x.keep(0), 3);
        x.ties(0, 2);
        x.tears();
        check.due("keep(1)", x.keep(1), 4);
        x.unties(0);
        x.rate(1, 1);
        Check.type(x, "h;");
        check.due("back(0)", x.back(0), 3);
        check.due("names and contract", Check.all(x), "ul r |i");
        check.due("back(1)", x.back(1), 4);
        check.due("names and contract", Check.all(x), "ull r |");
        check.due("nothing else: the trace", x.trace(), 11);
        check.due("nothing else: the text", x.count(1), 2);
        x.unties(0);
        check.due("an image stays kept", x.back(1), 4);
        check.due("kept anew", x.keep(0), 4);
        x.unties(1);
        check.due("back(0)", x.back(0), 4);
        check.due("the newer one", Check.all(x), "ull r |");
    }

    private static void imagesRefused() {
        KnotNames x = Check.told("hul;");
        check.due("keep(-1)", x.keep(-1), KnotNames.BAD);
        check.due("keep(2)", x.keep(2), KnotNames.BAD);
        check.due("back(-1)", x.back(-1), KnotNames.BAD);
        check.due("back(2)", x.back(2), KnotNames.BAD);
        x.unties(0);
        check.due("none was kept", x.back(0), KnotNames.STATE);
        check.due("nothing changes", x.now(3), 1);
        x.keep(0);
        check.due("none was kept there", x.back(1), KnotNames.STATE);
        check.due("kept there", x.back(0), 0);
    }

    private static void nothingUndoneBehindBack() {
        KnotNames x = Check.told("hul;");
        x.ties(0, 4);
        x.keep(0);
        check.due("keep() leaves what can be undone", x.now(3), 1);
        x.ties(0, 4);
        x.back(0);
        check.due("now(3)", x.now(3), 0);
        check.due("undo()", x.undo(), KnotNames.STATE);
        x.ties(0, 0);
        check.due("what comes then can be", x.undo(), 0);
        check.due("as the image has it", Check.all(x), "uli |");
    }
}
