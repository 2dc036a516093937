public final class Promise11SizeTest {
    private static final Check check = new Check("Promise 11: size");

    public static void main(String[] args) {
        countsKinds();
        emptyBag();
        fullBag();
        noSuchBag();
        check.end();
    }

    private static void countsKinds() {
        check.sentence("How many KINDS a BAG has");
        CoinBag x = Check.small();
        check.due("size(0)", 3, x.size(0));
        check.due("size(1)", 2, x.size(1));
        check.due("size(2)", 1, x.size(2));
        x.set(0, 5, 1, 11);
        check.due("size(0) after another AMOUNT", 3, x.size(0));
        x.set(0, 5, 1, 0);
        check.due("size(0) after an AMOUNT of 0", 2, x.size(0));
        x.sum(0, 1, 7);
        check.due("size(7) after sum(0, 1, 7)", 4, x.size(7));
    }

    private static void emptyBag() {
        check.sentence("How many KINDS a BAG has: none");
        CoinBag x = Check.small();
        check.due("size(7)", 0, x.size(7));
        x.set(7, 1, 1, 0);
        check.due("size(7) after a set to 0", 0, x.size(7));
        x.set(2, 1, 1, 0);
        check.due("size(2) after its only KIND has gone", 0, x.size(2));
        x.clear(0);
        check.due("size(0) after clear(0)", 0, x.size(0));
    }

    private static void fullBag() {
        check.sentence("How many KINDS a BAG has: 64");
        CoinBag x = new CoinBag();
        for (int i = 0; i < 64; i++) {
            x.set(4, 8, i, 1);
            check.due("size(4) with " + (i + 1) + " KINDS", i + 1, x.size(4));
        }
        x.set(4, 8, 64, 1);
        check.due("size(4) after a refused set", 64, x.size(4));
        x.set(4, 8, 0, 0);
        check.due("size(4) after an AMOUNT of 0", 63, x.size(4));
    }

    private static void noSuchBag() {
        check.sentence("BAG");
        CoinBag x = Check.small();
        for (int bag : Check.NO_BAGS) {
            check.throwsIndex("size(" + bag + ")", () -> x.size(bag));
        }
    }
}
