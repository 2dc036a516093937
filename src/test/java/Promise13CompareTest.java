public final class Promise13CompareTest {
    private static final Check check = new Check("Promise 13: compare");

    public static void main(String[] args) {
        alike();
        nowhereLess();
        nowhereMore();
        eachMoreSomewhere();
        emptyBags();
        edgesOfALong();
        kindsThatOneHas();
        fullBags();
        changesNothing();
        noSuchBag();
        check.end();
    }

    private static void both(String what, CoinBag x, int want, int wantTurned) {
        check.due(what + ": compare(0, 1)", want, x.compare(0, 1));
        check.due(what + ": compare(1, 0)", wantTurned, x.compare(1, 0));
    }

    /** Two KINDS, of each the AMOUNT in BAG 0 and that in BAG 1. */
    private static CoinBag two(long a, long b, long otherA, long otherB) {
        CoinBag x = new CoinBag();
        x.set(0, 1, 1, a);
        x.set(0, 2, 2, otherA);
        x.set(1, 2, 2, otherB);
        x.set(1, 1, 1, b);
        return x;
    }

    private static void alike() {
        check.sentence("0 alike");
        both("alike", two(4, 4, 6, 6), 0, 0);
        both("alike, below 0", two(-4, -4, 6, 6), 0, 0);
        CoinBag x = Check.small();
        check.due("compare(0, 0)", 0, x.compare(0, 0));
        check.due("compare(7, 7)", 0, x.compare(7, 7));
    }

    private static void nowhereLess() {
        check.sentence("1 no AMOUNT of a is less than that of b");
        both("one more, one alike", two(5, 4, 6, 6), 1, 2);
        both("one alike, one more", two(4, 4, 7, 6), 1, 2);
        both("both more", two(5, 4, -6, -7), 1, 2);
    }

    private static void nowhereMore() {
        check.sentence("2 none is more");
        both("one less, one alike", two(3, 4, 6, 6), 2, 1);
        both("one alike, one less", two(4, 4, 5, 6), 2, 1);
        both("both less", two(3, 4, -8, -7), 2, 1);
    }

    private static void eachMoreSomewhere() {
        check.sentence("3 each is more somewhere");
        both("one more, one less", two(5, 4, 5, 6), 3, 3);
        both("one less, one more", two(3, 4, 7, 6), 3, 3);
        both("other KINDS", two(5, 0, 0, 5), 3, 3);
    }

    private static void emptyBags() {
        check.sentence("How two BAGS lie: empty ones");
        CoinBag x = new CoinBag();
        both("two empty BAGS", x, 0, 0);
        x.set(0, 1, 1, 1);
        both("1 and an empty BAG", x, 1, 2);
        x.set(0, 1, 1, -1);
        both("-1 and an empty BAG", x, 2, 1);
        x.set(0, 1, 2, 1);
        both("both signs and an empty BAG", x, 3, 3);
    }

    private static void edgesOfALong() {
        check.sentence("is less than that of b: to the edges of a long");
        both("MAX and MIN", two(Check.MAX, Check.MIN, 6, 6), 1, 2);
        both("MIN and MAX", two(6, 6, Check.MIN, Check.MAX), 2, 1);
        both("MIN and nothing", two(Check.MIN, 0, 6, 6), 2, 1);
        both("MAX and -1", two(Check.MAX, -1, 6, 6), 1, 2);
        both("MAX and MAX - 1", two(Check.MAX, Check.MAX - 1, Check.MIN, Check.MIN), 1, 2);
        both("MIN and MIN + 1", two(Check.MAX, Check.MAX, Check.MIN, Check.MIN + 1), 2, 1);
    }

    private static void kindsThatOneHas() {
        check.sentence("is less than that of b: 0 of a KIND that it has not");
        CoinBag x = new CoinBag();
        x.set(0, 1, -1, 4);
        x.set(1, 1, 1, 4);
        both("other NAMES", x, 3, 3);
        x.set(1, 1, 1, -4);
        both("other NAMES, one AMOUNT below 0", x, 1, 2);
        x.clear(1);
        x.set(1, 2, -1, 4);
        both("other POLICIES", x, 3, 3);
        x.set(0, 2, -1, 4);
        both("one KIND more", x, 1, 2);
        x.set(0, 1, -1, -4);
        both("one KIND more, below 0", x, 2, 1);
    }

    private static void fullBags() {
        check.sentence("How two BAGS lie: full ones");
        CoinBag x = new CoinBag();
        Check.fill(x, 0, 1, 64, 2);
        Check.fill(x, 1, 2, 64, -2);
        both("64 and 64 other KINDS", x, 1, 2);
        x.set(1, 2, 63, 1);
        both("64 and 64 other KINDS, the last one more in b", x, 3, 3);
        x.times(0, 1, 1);
        both("64 KINDS, alike", x, 0, 0);
        x.set(1, 1, 63, 1);
        both("64 KINDS, the last one less in b", x, 1, 2);
        x.set(1, 1, 0, 3);
        both("64 KINDS, the first one more in b", x, 3, 3);
    }

    private static void changesNothing() {
        check.sentence("How two BAGS lie: as they did before");
        CoinBag x = Check.small();
        String before = Check.all(x);
        x.compare(0, 1);
        x.compare(1, 7);
        x.compare(0, 0);
        check.same("compares", x, before);
    }

    private static void noSuchBag() {
        check.sentence("BAG");
        CoinBag x = Check.small();
        for (int bag : Check.NO_BAGS) {
            check.throwsIndex("compare(" + bag + ", 0)", () -> x.compare(bag, 0));
            check.throwsIndex("compare(0, " + bag + ")", () -> x.compare(0, bag));
            check.throwsIndex("compare(" + bag + ", " + bag + ")", () -> x.compare(bag, bag));
        }
    }
}
