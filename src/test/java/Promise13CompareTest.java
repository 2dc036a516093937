public final class Promise13CompareTest {
    private static final Check check = new Check("Promise 13: compare");

    public static void main(String[] args) {
        emptyBags();
        amounts();
        kindsThatOneHas();
        wrongInputs();
        check.end();
    }

    private static void both(String what, CoinBag x, int want, int wantTurned) {
        check.due(what + ": compare(0, 1)", want, x.compare(0, 1));
        check.due(what + ": compare(1, 0)", wantTurned, x.compare(1, 0));
    }

    private static void emptyBags() {
        CoinBag x = new CoinBag();
        both("two empty BAGS", x, 0, 0);
        x.set(0, 1, 1, 1);
        both("1 and an empty BAG", x, 1, 2);
        x.set(0, 1, 1, -1);
        both("-1 and an empty BAG", x, 2, 1);
        x.set(0, 1, 2, 1);
        both("both signs and an empty BAG", x, 3, 3);
        check.due("compare(0, 0)", 0, x.compare(0, 0));
    }

    private static void amounts() {
        CoinBag x = new CoinBag();
        x.set(0, 1, 1, 4);
        x.set(0, 2, 2, 6);
        x.set(1, 2, 2, 6);
        x.set(1, 1, 1, 4);
        both("alike", x, 0, 0);
        x.set(0, 1, 1, 5);
        both("one more, one alike", x, 1, 2);
        x.set(0, 2, 2, 5);
        both("one more, one less", x, 3, 3);
        x.set(0, 1, 1, 4);
        both("one alike, one less", x, 2, 1);
        x.set(0, 1, 1, Long.MAX_VALUE);
        x.set(0, 2, 2, 6);
        x.set(1, 1, 1, Long.MIN_VALUE);
        both("MAX and MIN", x, 1, 2);
    }

    private static void kindsThatOneHas() {
        CoinBag x = new CoinBag();
        x.set(0, 1, -1, 4);
        x.set(1, 1, 1, 4);
        both("other NAMES", x, 3, 3);
        x.set(1, 1, 1, -4);
        both("other NAMES, one AMOUNT below 0", x, 1, 2);
        x.clear(1);
        x.set(1, 2, -1, 4);
        both("other POLICIES", x, 3, 3);
        x.set(0, 2, -1, 4);
        both("one KIND more", x, 1, 2);
        check.bag("all that", x, 0, "1/18446744073709551615:4 2/18446744073709551615:4");
        fullBags();
    }

    private static void fullBags() {
        CoinBag x = new CoinBag();
        Check.fill(x, 0, 1, 64, 2);
        Check.fill(x, 1, 2, 64, -2);
        both("64 and 64 KINDS", x, 1, 2);
        x.set(1, 2, 63, 1);
        both("64 and 64 KINDS, the last one more in b", x, 3, 3);
    }

    private static void wrongInputs() {
        CoinBag x = Check.small();
        for (int bag : Check.NO_BAGS) {
            check.throwsIndex("compare(" + bag + ", 0)", () -> x.compare(bag, 0));
            check.throwsIndex("compare(0, " + bag + ")", () -> x.compare(0, bag));
            check.throwsIndex("compare(" + bag + ", " + bag + ")", () -> x.compare(bag, bag));
        }
    }
}
