public final class Promise06TimesTest {
    private static final Check check = new Check("Promise 6: times");

    public static void main(String[] args) {
        multiplies();
        refusesWhatIsNoLong();
        fullBag();
        wrongInputs();
        check.end();
    }

    private static void multiplies() {
        CoinBag x = Check.small();
        check.yes("times(0, 3, 2)", x.times(0, 3, 2));
        check.bag("times(0, 3, 2)", x, 2, "5/1:30 5/2:-12 9/0:21");
        check.bag("times(0, 3, 2)", x, 0, "5/1:10 5/2:-4 9/0:7");
        check.yes("times(0, -1, 0)", x.times(0, -1, 0));
        check.bag("times(0, -1, 0)", x, 0, "5/1:-10 5/2:4 9/0:-7");
        check.yes("times(0, 1, 4)", x.times(0, 1, 4));
        check.bag("times(0, 1, 4)", x, 4, "5/1:-10 5/2:4 9/0:-7");
        check.yes("times(0, 0, 4)", x.times(0, 0, 4));
        check.bag("times(0, 0, 4)", x, 4, "");
        check.yes("times(0, 0, 0)", x.times(0, 0, 0));
        check.bag("times(0, 0, 0)", x, 0, "");
        check.yes("times(7, MIN, 2)", x.times(7, Long.MIN_VALUE, 2));
        check.bag("times(7, MIN, 2)", x, 2, "");
    }

    private static void product(long amount, long n, String want) {
        CoinBag x = new CoinBag();
        x.set(0, 1, 0, amount);
        String call = amount + " times " + n;
        check.yes(call, x.times(0, n, 1));
        check.bag(call, x, 1, want);
    }

    private static void noProduct(long amount, long n) {
        CoinBag x = new CoinBag();
        x.set(0, 1, 0, amount);
        x.set(1, 3, 3, 3);
        String before = Check.all(x);
        String call = amount + " times " + n;
        check.no(call, x.times(0, n, 0));
        check.no(call, x.times(0, n, 1));
        check.same(call, x, before);
    }

    private static void refusesWhatIsNoLong() {
        product(Long.MIN_VALUE, 1, "1/0:-9223372036854775808");
        product(1, Long.MIN_VALUE, "1/0:-9223372036854775808");
        product(Long.MAX_VALUE, -1, "1/0:-9223372036854775807");
        product(-1, Long.MAX_VALUE, "1/0:-9223372036854775807");
        product(1L << 62, -2, "1/0:-9223372036854775808");
        product(-2, 1L << 62, "1/0:-9223372036854775808");
        product(3037000499L, 3037000499L, "1/0:9223372030926249001");
        product(Long.MIN_VALUE, 0, "");
        noProduct(Long.MIN_VALUE, -1);
        noProduct(-1, Long.MIN_VALUE);
        noProduct(Long.MIN_VALUE, Long.MIN_VALUE);
        noProduct(Long.MIN_VALUE, 2);
        noProduct(2, Long.MIN_VALUE);
        noProduct(1L << 62, 2);
        noProduct(1L << 32, 1L << 32);
        noProduct(3037000500L, 3037000500L);
        noProduct(Long.MAX_VALUE, Long.MAX_VALUE);
        refusedAtTheLastKind();
    }

    private static void refusedAtTheLastKind() {
        CoinBag x = Check.small();
        x.set(0, 65535, -1, Long.MAX_VALUE);
        String before = Check.all(x);
        check.no("times(0, 2, 0)", x.times(0, 2, 0));
        check.no("times(0, 2, 2)", x.times(0, 2, 2));
        check.same("refused at the last KIND", x, before);
    }

    private static void fullBag() {
        CoinBag x = new CoinBag();
        Check.fill(x, 0, 1, 64, 2);
        check.yes("times of 64 KINDS", x.times(0, 5, 1));
        check.due("size(1)", 64, x.size(1));
        check.due("at(1, 63, 1)", 63, x.at(1, 63, 1));
        check.due("at(1, 63, 2)", 10, x.at(1, 63, 2));
    }

    private static void wrongInputs() {
        CoinBag x = Check.small();
        String before = Check.all(x);
        for (int bag : Check.NO_BAGS) {
            check.throwsIndex("times(" + bag + ", 2, 0)", () -> x.times(bag, 2, 0));
            check.throwsIndex("times(0, 2, " + bag + ")", () -> x.times(0, 2, bag));
            check.throwsIndex("times(0, MAX, " + bag + ")", () -> x.times(0, Long.MAX_VALUE, bag));
        }
        check.same("wrong times", x, before);
    }
}
