/** Promises 26 and 27: porridge, share. */
public final class OddsTest {
    private static final Check check = new Check();

    public static void main(String[] args) {
        porridges();
        porridgeRefused();
        dogs();
        dogsRefused();
        check.end();
    }

    private static void porridge(int p, int n, int k, int upper, int lower) {
        KnotNames x = new KnotNames();
        String call = "porridge(" + p + ", " + n + ", " + k + ", ";
        check.due(call + "0)", x.porridge(p, n, k, 0), upper);
        check.due(call + "1)", x.porridge(p, n, k, 1), lower);
    }

    private static void porridges() {
        porridge(5, 0, 0, 1, 1);
        porridge(0, 0, 0, 1, 1);
        porridge(5, 0, 1, 0, 1);
        porridge(3, 1, 1, 1, 1);
        porridge(3, 1, 0, 0, 1);
        porridge(3, 2, 0, 21, 50);
        porridge(3, 2, 2, 29, 50);
        porridge(3, 2, 1, 0, 1);
        porridge(7, 2, 0, 21, 50);
        porridge(5, 6, 0, 5, 16);
        porridge(5, 6, 2, 15, 32);
        porridge(5, 6, 4, 3, 16);
        porridge(5, 6, 6, 1, 32);
        porridge(5, 6, 5, 0, 1);
        porridge(0, 6, 6, 1, 1);
        porridge(10, 6, 6, 1, 1);
        porridge(10, 6, 0, 0, 1);
        porridge(1, 6, 6, 265721, 500000);
        porridge(1, 5, 3, 657, 2000);
        porridge(4, 3, 5, 0, 1);
    }

    private static void porridgeRefused() {
        KnotNames x = new KnotNames();
        check.due("p -1", x.porridge(-1, 0, 0, 0), KnotNames.BAD);
        check.due("p 11", x.porridge(11, 0, 0, 0), KnotNames.BAD);
        check.due("n -1", x.porridge(0, -1, 0, 0), KnotNames.BAD);
        check.due("n 7", x.porridge(0, 7, 0, 0), KnotNames.BAD);
        check.due("k -1", x.porridge(0, 0, -1, 0), KnotNames.BAD);
        check.due("k 7", x.porridge(0, 0, 7, 0), KnotNames.BAD);
        check.due("what -1", x.porridge(0, 0, 0, -1), KnotNames.BAD);
        check.due("what 2", x.porridge(0, 0, 0, 2), KnotNames.BAD);
    }

    private static void dogs() {
        KnotNames x = Check.told("hu;hu;hl;h;h;h;");
        check.due("share(0, 99)", x.share(0, 99), 16);
        check.due("share(2, 99)", x.share(2, 99), 33);
        check.due("share(3, 99)", x.share(3, 99), 11);
        check.due("cut each time", x.share(3, 11), 1);
        check.due("cut each time", x.share(0, 11), 1);
        check.due("cut each time", x.share(2, 11), 3);
        check.due("fewer dogs than names", x.share(2, 2), 0);
        check.due("alone", Check.told("h;").share(0, 1), 1);
    }

    private static void dogsRefused() {
        KnotNames x = Check.told("hu;hl;");
        check.due("share(2, 1)", x.share(2, 1), KnotNames.BAD);
        check.due("share(-1, 1)", x.share(-1, 1), KnotNames.BAD);
        check.due("share(0, 0)", x.share(0, 0), KnotNames.BAD);
        check.due("share(0, 100)", x.share(0, 100), KnotNames.BAD);
        check.due("share(0, -5)", x.share(0, -5), KnotNames.BAD);
        check.due("no herders", new KnotNames().share(0, 5), KnotNames.BAD);
    }
}
