public final class Promise15IntoTest {
    private static final long MIN = Long.MIN_VALUE;
    private static final long MAX = Long.MAX_VALUE;
    private static final long NONE = CoinBag.NONE;
    private static final Check check = new Check("Promise 15: into");

    public static void main(String[] args) {
        oneKind();
        manyKinds();
        edges();
        changesNothing();
        wrongInputs();
        check.end();
    }

    /** Of each KIND the AMOUNTS in a and in b, one pair behind the other. */
    private static void into(long want, long... pairs) {
        CoinBag x = new CoinBag();
        for (int i = 0; i + 1 < pairs.length; i += 2) {
            x.set(0, 1, i, pairs[i]);
            x.set(1, 1, i, pairs[i + 1]);
        }
        check.due("into of " + java.util.Arrays.toString(pairs), want, x.into(0, 1));
    }

    private static void oneKind() {
        into(3, 10, 3);
        into(3, 9, 3);
        into(0, 2, 3);
        into(0, 0, 3);
        into(NONE, -1, 3);
        into(NONE, 10, 0);
        into(NONE, -10, 0);
        into(NONE, 10, -3);
        into(NONE, -10, -3);
        into(NONE, 0, -3);
        into(NONE);
    }

    private static void manyKinds() {
        into(2, 10, 3, 9, 4);
        into(2, 9, 4, 10, 3);
        into(3, 10, 3, 5, 0);
        into(NONE, 10, 3, -1, 0);
        into(3, 10, 3, -9, -3);
        into(NONE, 10, 3, -10, -3);
        into(NONE, -10, -3, 10, 3);
        into(4, 12, 3, -10, -3);
        into(4, -10, -3, 12, 3);
        into(4, 12, 3, -1, -3);
        into(0, 2, 3, 4, -3);
        into(0, 2, 3, 0, -3);
        into(NONE, 2, 3, -1, -3);
        into(NONE, 10, 3, 0, 1, -1, -1);
        into(NONE, 10, 3, -1, 1);
    }

    private static void edges() {
        into(MAX, MAX, 1);
        into(1, MAX, MAX);
        into(0, MAX - 1, MAX);
        into(NONE, MIN, 1);
        into(NONE, MIN, MAX);
        into(NONE, MAX, 1, MIN, -1);
        into(NONE, MIN, -1, MAX, 1);
        into(MAX, MAX, 1, MIN + 1, -1);
        into(MAX, MAX, 1, MIN, -2);
        into(MAX, MAX, 1, -1, MIN);
        into(MAX, MAX, 1, MIN, MIN);
        into(1, 1, 1, MIN, MIN);
        into(0, 0, 1, MAX, MIN);
        into(NONE, 0, 1, -1, MIN);
        into(1L << 62, 1L << 62, 1, MIN, -2);
        into(NONE, (1L << 62) - 1, 1, MIN, -2);
        CoinBag x = Check.small();
        check.due("into(1, 1)", 1, x.into(1, 1));
        check.due("into(0, 0) with an AMOUNT below 0", 1, x.into(0, 0));
        check.due("into(1, 7)", NONE, x.into(1, 7));
        check.due("into(0, 7)", NONE, x.into(0, 7));
        check.due("into(7, 1)", 0, x.into(7, 1));
        check.due("into(7, 7)", NONE, x.into(7, 7));
        fullBags();
    }

    private static void fullBags() {
        CoinBag x = new CoinBag();
        Check.fill(x, 0, 1, 64, 20);
        Check.fill(x, 1, 2, 64, -3);
        check.due("into of 64 KINDS, no greatest n", NONE, x.into(0, 1));
        x.set(1, 2, 63, 0);
        x.set(1, 1, 63, 7);
        check.due("into of 64 KINDS", 2, x.into(0, 1));
    }

    private static void changesNothing() {
        CoinBag x = Check.small();
        String before = Check.all(x);
        check.due("into(0, 2)", NONE, x.into(0, 2));
        check.due("into(1, 2)", 0, x.into(1, 2));
        check.same("into", x, before);
    }

    private static void wrongInputs() {
        CoinBag x = Check.small();
        for (int bag : Check.NO_BAGS) {
            check.throwsIndex("into(" + bag + ", 0)", () -> x.into(bag, 0));
            check.throwsIndex("into(0, " + bag + ")", () -> x.into(0, bag));
        }
    }
}
