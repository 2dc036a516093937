import java.util.Arrays;

public final class Promise15IntoTest {
    private static final long MIN = Check.MIN;
    private static final long MAX = Check.MAX;
    private static final long NONE = CoinBag.NONE;
    private static final Check check = new Check("Promise 15: into");

    public static void main(String[] args) {
        greatestN();
        zeroOrMore();
        nowhereLess();
        noneAtAll();
        noGreatestOne();
        amountsBelowZero();
        edgesOfALong();
        productsThatAreNoLong();
        emptyBags();
        fullBags();
        changesNothing();
        noSuchBag();
        check.end();
    }

    /** Of each KIND the AMOUNTS in a and in b, one pair behind the other. */
    private static void into(long want, long... pairs) {
        CoinBag x = new CoinBag();
        for (int i = 0; i + 1 < pairs.length; i += 2) {
            x.set(0, 1, i, pairs[i]);
            x.set(1, 1, i, pairs[i + 1]);
        }
        check.due("into of " + Arrays.toString(pairs), want, x.into(0, 1));
    }

    private static void greatestN() {
        check.sentence("How often the BAG'S AMOUNTS go into those of a .. the greatest n");
        into(3, 10, 3);
        into(3, 9, 3);
        into(2, 8, 3);
        into(1, 3, 3);
        into(10, 10, 1);
        CoinBag x = Check.small();
        check.due("into(1, 1)", 1, x.into(1, 1));
        check.due("into(0, 0) with an AMOUNT below 0", 1, x.into(0, 0));
    }

    private static void zeroOrMore() {
        check.sentence("0 or more");
        into(0, 2, 3);
        into(0, 0, 3);
        into(0, 1, MAX);
        into(0, 10, 3, 2, 3);
        into(0, 10, 3, 0, 1);
        into(NONE, -1, 3);
        into(NONE, -3, 3);
        into(NONE, -4, 3, -8, -4);
    }

    private static void nowhereLess() {
        check.sentence("for which a has nowhere less than n times b: KIND by KIND");
        into(2, 10, 3, 9, 4);
        into(2, 9, 4, 10, 3);
        into(1, 10, 3, 9, 4, 5, 5);
        into(3, 10, 3, 5, 0);
        into(NONE, 10, 3, -1, 0);
        into(NONE, -1, 0, 10, 3);
    }

    private static void noneAtAll() {
        check.sentence("NONE if there is none");
        into(NONE, -1, 3);
        into(NONE, -10, 0);
        into(NONE, 10, 3, -1, 1);
        into(NONE, 10, 3, -10, -3);
        into(NONE, -10, -3, 10, 3);
        into(NONE, 2, 3, -1, -3);
        into(NONE, 10, 3, 0, 1, -1, -1);
        into(NONE, -5, -2, -5, 0);
    }

    private static void noGreatestOne() {
        check.sentence("or no greatest one");
        into(NONE);
        into(NONE, 10, 0);
        into(NONE, 10, -3);
        into(NONE, 0, -3);
        into(NONE, -10, -3);
        into(NONE, MIN, -1);
        into(NONE, 10, 0, -10, -3, 5, -1);
    }

    private static void amountsBelowZero() {
        check.sentence("nowhere less than n times b: AMOUNTS of b below 0");
        into(3, 10, 3, -9, -3);
        into(3, -9, -3, 10, 3);
        into(4, 12, 3, -10, -3);
        into(4, -10, -3, 12, 3);
        into(4, 12, 3, -12, -3);
        into(NONE, 12, 3, -13, -3);
        into(4, 12, 3, -1, -3);
        into(0, 2, 3, 4, -3);
        into(0, 2, 3, 0, -3);
    }

    private static void edgesOfALong() {
        check.sentence("the greatest n: to the edges of a long");
        into(MAX, MAX, 1);
        into(1, MAX, MAX);
        into(0, MAX - 1, MAX);
        into(NONE, MIN, 1);
        into(NONE, MIN, MAX);
        into(NONE, MAX, 1, MIN, -1);
        into(NONE, MIN, -1, MAX, 1);
        into(MAX, MAX, 1, MIN + 1, -1);
        into(1, 1, 1, MIN, MIN);
        into(NONE, 0, 1, -1, MIN);
        into(NONE, 0, 1, MIN, MIN);
        into(1L << 62, 1L << 62, 1, MIN, -2);
        into(NONE, (1L << 62) - 1, 1, MIN, -2);
    }

    private static void productsThatAreNoLong() {
        check.sentence("n times b: a number, be it a long or not");
        into(MAX, MAX, 1, MIN, -2);
        into(MAX, MAX, 1, -1, MIN);
        into(MAX, MAX, 1, MIN, MIN);
        into(MAX, MAX, 1, MAX, MIN);
        into(2, 2, 1, 0, MIN);
        into(0, 0, 1, MAX, MIN);
        into(1, MAX, 1, MAX, MAX);
    }

    private static void emptyBags() {
        check.sentence("How often the BAG'S AMOUNTS go into those of a: empty ones");
        CoinBag x = Check.small();
        check.due("into(1, 7)", NONE, x.into(1, 7));
        check.due("into(0, 7)", NONE, x.into(0, 7));
        check.due("into(7, 1)", 0, x.into(7, 1));
        check.due("into(7, 0)", 0, x.into(7, 0));
        check.due("into(7, 7)", NONE, x.into(7, 7));
        x.times(1, -1, 3);
        check.due("into(7, 3)", NONE, x.into(7, 3));
        check.due("into(3, 7)", NONE, x.into(3, 7));
    }

    private static void fullBags() {
        check.sentence("How often the BAG'S AMOUNTS go into those of a: full ones");
        CoinBag x = new CoinBag();
        Check.fill(x, 0, 1, 64, 20);
        Check.fill(x, 1, 2, 64, -3);
        check.due("into of 64 other KINDS, no greatest n", NONE, x.into(0, 1));
        x.set(1, 2, 63, 0);
        x.set(1, 1, 63, 7);
        check.due("into of 63 other KINDS and the last", 2, x.into(0, 1));
        x.times(0, 1, 1);
        check.due("into of 64 KINDS, alike", 1, x.into(0, 1));
        x.set(1, 1, 63, 21);
        check.due("into of 64 KINDS, the last too much", 0, x.into(0, 1));
        x.set(0, 1, 0, -1);
        check.due("into of 64 KINDS, the first below 0", NONE, x.into(0, 1));
    }

    private static void changesNothing() {
        check.sentence("How often the BAG'S AMOUNTS go into those of a: which stay");
        CoinBag x = Check.small();
        String before = Check.all(x);
        check.due("into(0, 2)", NONE, x.into(0, 2));
        check.due("into(1, 2)", 0, x.into(1, 2));
        check.same("into", x, before);
    }

    private static void noSuchBag() {
        check.sentence("BAG");
        CoinBag x = Check.small();
        for (int bag : Check.NO_BAGS) {
            check.throwsIndex("into(" + bag + ", 0)", () -> x.into(bag, 0));
            check.throwsIndex("into(0, " + bag + ")", () -> x.into(0, bag));
            check.throwsIndex("into(" + bag + ", " + bag + ")", () -> x.into(bag, bag));
        }
    }
}
