public final class Promise06TimesTest {
    private static final long MIN = Check.MIN;
    private static final long MAX = Check.MAX;
    private static final Check check = new Check("Promise 6: times");

    public static void main(String[] args) {
        multiplies();
        timesZero();
        emptyBag();
        sameBag();
        tooLarge();
        tooSmall();
        justALong();
        refusedAtTheFirstOrTheLastKind();
        fullBag();
        noSuchBag();
        check.end();
    }

    private static void multiplies() {
        check.sentence("BAG c becomes a, each AMOUNT n times");
        CoinBag x = Check.small();
        check.yes("times(0, 3, 2)", x.times(0, 3, 2));
        check.bag("times(0, 3, 2)", x, 2, "5/1:30 5/2:-12 9/0:21");
        check.bag("times(0, 3, 2)", x, 0, "5/1:10 5/2:-4 9/0:7");
        check.yes("times(0, 1, 4)", x.times(0, 1, 4));
        check.bag("times(0, 1, 4)", x, 4, "5/1:10 5/2:-4 9/0:7");
        check.yes("times(0, -2, 4)", x.times(0, -2, 4));
        check.bag("times(0, -2, 4)", x, 4, "5/1:-20 5/2:8 9/0:-14");
    }

    private static void timesZero() {
        check.sentence("each AMOUNT n times: 0 times");
        CoinBag x = Check.small();
        check.yes("times(0, 0, 2)", x.times(0, 0, 2));
        check.bag("times(0, 0, 2)", x, 2, "");
        check.bag("times(0, 0, 2)", x, 0, "5/1:10 5/2:-4 9/0:7");
        check.yes("times(0, 0, 0)", x.times(0, 0, 0));
        check.bag("times(0, 0, 0)", x, 0, "");
        product(MIN, 0, "");
        product(MAX, 0, "");
    }

    private static void emptyBag() {
        check.sentence("each AMOUNT n times: of an empty BAG");
        CoinBag x = Check.small();
        for (long n : new long[] {MIN, -1, 0, 1, MAX}) {
            x.set(3, 1, 1, 1);
            check.yes("times(7, " + n + ", 3)", x.times(7, n, 3));
            check.bag("times(7, " + n + ", 3)", x, 3, "");
        }
    }

    private static void sameBag() {
        check.sentence("BAG c becomes a: c may be a");
        CoinBag x = Check.small();
        check.yes("times(0, -1, 0)", x.times(0, -1, 0));
        check.bag("times(0, -1, 0)", x, 0, "5/1:-10 5/2:4 9/0:-7");
        check.yes("times(0, 2, 0)", x.times(0, 2, 0));
        check.bag("times(0, 2, 0)", x, 0, "5/1:-20 5/2:8 9/0:-14");
    }

    private static void product(long amount, long n, String want) {
        CoinBag x = new CoinBag();
        x.set(0, 1, 0, amount);
        String call = amount + " times " + n;
        check.yes(call, x.times(0, n, 1));
        check.bag(call, x, 1, want);
    }

    private static void noProduct(long amount, long n) {
        CoinBag x = new CoinBag();
        x.set(0, 1, 0, amount);
        x.set(1, 3, 3, 3);
        String before = Check.all(x);
        String call = amount + " times " + n;
        check.no(call, x.times(0, n, 0));
        check.no(call, x.times(0, n, 1));
        check.same(call, x, before);
    }

    private static void tooLarge() {
        check.sentence("likewise: false if it can't be done: too large");
        noProduct(MIN, -1);
        noProduct(-1, MIN);
        noProduct(MIN, MIN);
        noProduct(1L << 62, 2);
        noProduct(2, 1L << 62);
        noProduct(-(1L << 62), -2);
        noProduct(1L << 32, 1L << 32);
        noProduct(3037000500L, 3037000500L);
        noProduct(-3037000500L, -3037000500L);
        noProduct(MAX, MAX);
        noProduct(MAX, 2);
    }

    private static void tooSmall() {
        check.sentence("likewise: false if it can't be done: too small");
        noProduct(MIN, 2);
        noProduct(2, MIN);
        noProduct(MIN, MAX);
        noProduct(MAX, MIN);
        noProduct(MAX, -2);
        noProduct(-2, MAX);
        noProduct(-(1L << 62), 3);
        noProduct(1L << 32, -(1L << 32));
        noProduct(3037000500L, -3037000500L);
    }

    private static void justALong() {
        check.sentence("likewise: what is just a long can be done");
        product(MIN, 1, "1/0:-9223372036854775808");
        product(1, MIN, "1/0:-9223372036854775808");
        product(MAX, 1, "1/0:9223372036854775807");
        product(MAX, -1, "1/0:-9223372036854775807");
        product(-1, MAX, "1/0:-9223372036854775807");
        product(MIN + 1, -1, "1/0:9223372036854775807");
        product(-1, MIN + 1, "1/0:9223372036854775807");
        product(1L << 62, -2, "1/0:-9223372036854775808");
        product(-2, 1L << 62, "1/0:-9223372036854775808");
        product(1L << 31, -(1L << 32), "1/0:-9223372036854775808");
        product(3037000499L, 3037000499L, "1/0:9223372030926249001");
        product(7, MAX / 7, "1/0:9223372036854775807");
    }

    private static void refusedAtTheFirstOrTheLastKind() {
        check.sentence("likewise: each AMOUNT, also the first and the last");
        for (int policy : new int[] {0, 65535}) {
            CoinBag x = Check.small();
            x.set(0, policy, 0, MAX);
            String before = Check.all(x);
            check.no("times(0, 2, 0), too large at POLICY " + policy, x.times(0, 2, 0));
            check.no("times(0, 2, 2), too large at POLICY " + policy, x.times(0, 2, 2));
            check.same("refused times", x, before);
        }
    }

    private static void fullBag() {
        check.sentence("likewise: of a full BAG");
        CoinBag x = new CoinBag();
        Check.fill(x, 0, 1, 64, 2);
        check.yes("times(0, 5, 1)", x.times(0, 5, 1));
        check.bag("times(0, 5, 1)", x, 1, Check.filled(1, 64, 10));
        check.no("times(0, MAX, 1)", x.times(0, MAX, 1));
        check.due("size(1)", 64, x.size(1));
        check.yes("times(0, 0, 1)", x.times(0, 0, 1));
        check.bag("times(0, 0, 1)", x, 1, "");
    }

    private static void noSuchBag() {
        check.sentence("likewise: BAG");
        CoinBag x = Check.small();
        String before = Check.all(x);
        for (int bag : Check.NO_BAGS) {
            check.throwsIndex("times(" + bag + ", 2, 0)", () -> x.times(bag, 2, 0));
            check.throwsIndex("times(0, 2, " + bag + ")", () -> x.times(0, 2, bag));
            check.throwsIndex("times(0, MAX, " + bag + ")", () -> x.times(0, MAX, bag));
        }
        check.same("wrong times", x, before);
    }
}
