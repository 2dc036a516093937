public final class Promise04SumTest {
    private static final long MIN = Check.MIN;
    private static final long MAX = Check.MAX;
    private static final Check check = new Check("Promise 4: sum");

    public static void main(String[] args) {
        adds();
        emptyBags();
        sameBags();
        kindsAtOtherPlaces();
        namesWithoutSign();
        tooLarge();
        tooSmall();
        justALong();
        moreThan64Kinds();
        just64Kinds();
        noSuchBag();
        check.end();
    }

    private static void adds() {
        check.sentence("BAG c becomes the sum of a and b: true");
        CoinBag x = Check.small();
        check.yes("sum(0, 1, 2)", x.sum(0, 1, 2));
        check.bag("sum(0, 1, 2)", x, 2, "5/1:13 5/2:-4 7/18446744073709551615:2 9/0:7");
        check.bag("sum(0, 1, 2)", x, 0, "5/1:10 5/2:-4 9/0:7");
        check.bag("sum(0, 1, 2)", x, 1, "5/1:3 7/18446744073709551615:2");
        x.set(5, 5, 1, -10);
        x.set(5, 9, 0, -7);
        check.yes("sum(0, 5, 6)", x.sum(0, 5, 6));
        check.bag("sum(0, 5, 6)", x, 6, "5/2:-4");
        check.yes("set(2, 5, 1, 1)", x.set(2, 5, 1, 1));
        check.bag("sum(0, 1, 2) and a set in 2", x, 0, "5/1:10 5/2:-4 9/0:7");
    }

    private static void emptyBags() {
        check.sentence("the sum of a and b: empty ones");
        CoinBag x = Check.small();
        check.yes("sum(0, 7, 3)", x.sum(0, 7, 3));
        check.bag("sum(0, 7, 3)", x, 3, "5/1:10 5/2:-4 9/0:7");
        check.yes("sum(7, 0, 4)", x.sum(7, 0, 4));
        check.bag("sum(7, 0, 4)", x, 4, "5/1:10 5/2:-4 9/0:7");
        check.yes("sum(6, 7, 2)", x.sum(6, 7, 2));
        check.bag("sum(6, 7, 2)", x, 2, "");
        x.times(0, -1, 5);
        check.yes("sum(0, 5, 0)", x.sum(0, 5, 0));
        check.bag("sum(0, 5, 0) to an empty BAG", x, 0, "");
    }

    private static void sameBags() {
        check.sentence("BAG c becomes the sum of a and b: c may be one of them");
        CoinBag x = Check.small();
        check.yes("sum(0, 1, 0)", x.sum(0, 1, 0));
        check.bag("sum(0, 1, 0)", x, 0, "5/1:13 5/2:-4 7/18446744073709551615:2 9/0:7");
        check.yes("sum(2, 1, 1)", x.sum(2, 1, 1));
        check.bag("sum(2, 1, 1)", x, 1, "1/1:1 5/1:3 7/18446744073709551615:2");
        check.bag("sum(2, 1, 1)", x, 2, "1/1:1");
        check.yes("sum(2, 2, 2)", x.sum(2, 2, 2));
        check.bag("sum(2, 2, 2)", x, 2, "1/1:2");
        check.yes("set(2, 1, 1, 9)", x.set(2, 1, 1, 9));
        check.bag("sum(2, 1, 1), then a set in 2", x, 1, "1/1:1 5/1:3 7/18446744073709551615:2");
    }

    private static void kindsAtOtherPlaces() {
        check.sentence("the sum of a and b: KIND by KIND, not place by place");
        CoinBag x = new CoinBag();
        x.set(0, 1, 1, 1);
        x.set(0, 2, 2, 2);
        x.set(0, 4, 4, 4);
        x.set(1, 2, 2, 20);
        x.set(1, 3, 3, 30);
        x.set(1, 3, 4, 31);
        x.set(1, 4, 4, 40);
        check.yes("sum(0, 1, 2)", x.sum(0, 1, 2));
        check.bag("sum(0, 1, 2)", x, 2, "1/1:1 2/2:22 3/3:30 3/4:31 4/4:44");
        check.yes("sum(1, 0, 3)", x.sum(1, 0, 3));
        check.bag("sum(1, 0, 3)", x, 3, "1/1:1 2/2:22 3/3:30 3/4:31 4/4:44");
    }

    private static void namesWithoutSign() {
        check.sentence("the sum of a and b: NAMES without a sign");
        CoinBag x = new CoinBag();
        x.set(0, 1, -1, 1);
        x.set(0, 1, 5, 2);
        x.set(1, 1, MIN, 3);
        x.set(1, 1, 5, 4);
        x.set(1, 1, MAX, 5);
        check.yes("sum(0, 1, 2)", x.sum(0, 1, 2));
        check.bag("sum(0, 1, 2)", x, 2,
                "1/5:6 1/9223372036854775807:5 1/9223372036854775808:3 1/18446744073709551615:1");
    }

    private static void tooLarge() {
        check.sentence("false if it can't be done: too large");
        CoinBag x = Check.small();
        x.set(3, 5, 1, MAX);
        x.set(4, 9, 0, MAX);
        String before = Check.all(x);
        check.no("sum(0, 3, 2), at the first KIND", x.sum(0, 3, 2));
        check.no("sum(0, 4, 2), at the last KIND", x.sum(0, 4, 2));
        check.no("sum(4, 0, 0)", x.sum(4, 0, 0));
        check.no("sum(3, 3, 3)", x.sum(3, 3, 3));
        check.same("refused sums", x, before);
    }

    private static void tooSmall() {
        check.sentence("false if it can't be done: too small");
        CoinBag x = Check.small();
        x.set(4, 5, 2, MIN);
        String before = Check.all(x);
        check.no("sum(4, 0, 4)", x.sum(4, 0, 4));
        check.no("sum(0, 4, 0)", x.sum(0, 4, 0));
        check.no("sum(4, 4, 0)", x.sum(4, 4, 0));
        check.no("sum(4, 4, 7)", x.sum(4, 4, 7));
        check.same("refused sums", x, before);
    }

    private static void justALong() {
        check.sentence("false if it can't be done: what is just a long can");
        CoinBag x = new CoinBag();
        x.set(0, 5, 1, 1);
        x.set(1, 5, 1, MAX - 1);
        check.yes("sum of 1 and MAX - 1", x.sum(0, 1, 2));
        check.bag("sum of 1 and MAX - 1", x, 2, "5/1:9223372036854775807");
        x.set(0, 5, 1, -1);
        x.set(1, 5, 1, MIN + 1);
        check.yes("sum of -1 and MIN + 1", x.sum(0, 1, 3));
        check.bag("sum of -1 and MIN + 1", x, 3, "5/1:-9223372036854775808");
        check.yes("sum of MAX and MIN", x.sum(2, 3, 4));
        check.bag("sum of MAX and MIN", x, 4, "5/1:-1");
        check.yes("sum of MAX and nothing", x.sum(2, 7, 4));
        check.bag("sum of MAX and nothing", x, 4, "5/1:9223372036854775807");
    }

    private static void moreThan64Kinds() {
        check.sentence("false if it can't be done: more than 64 KINDS");
        CoinBag x = new CoinBag();
        Check.fill(x, 0, 1, 64, 1);
        x.set(1, 2, 0, 1);
        x.set(2, 0, 0, 1);
        x.times(0, 1, 3);
        x.set(5, 9, 9, 9);
        check.no("sum to 65 KINDS, the last from b", x.sum(0, 1, 5));
        check.no("sum to 65 KINDS, the last from a", x.sum(2, 0, 5));
        check.no("sum to 65 KINDS over a", x.sum(0, 1, 0));
        check.no("sum to 65 KINDS over b", x.sum(1, 0, 0));
        check.bag("refused sums", x, 5, "9/9:9");
        check.due("compare(0, 3)", 0, x.compare(0, 3));
        check.bag("refused sums", x, 0, Check.filled(1, 64, 1));
    }

    private static void just64Kinds() {
        check.sentence("false if it can't be done: 64 KINDS can");
        CoinBag x = new CoinBag();
        Check.fill(x, 0, 1, 64, 1);
        check.yes("sum of 64 KINDS and the same", x.sum(0, 0, 1));
        check.bag("sum of 64 KINDS and the same", x, 1, Check.filled(1, 64, 2));
        x.set(2, 2, 0, 1);
        x.set(2, 1, 63, -1);
        check.yes("sum to 64 KINDS, one of 65 becoming 0", x.sum(0, 2, 4));
        check.due("size(4)", 64, x.size(4));
        check.due("at(4, 63, 0)", 2, x.at(4, 63, 0));
        x.times(0, -1, 6);
        x.set(6, 1, 0, 5);
        check.yes("sum of 64 and 64 KINDS to 1", x.sum(0, 6, 6));
        check.bag("sum of 64 and 64 KINDS to 1", x, 6, "1/0:6");
        halves();
    }

    private static void halves() {
        CoinBag x = new CoinBag();
        Check.fill(x, 0, 1, 32, 1);
        Check.fill(x, 1, 2, 32, 1);
        check.yes("sum of 32 and 32 KINDS", x.sum(0, 1, 2));
        check.due("size(2)", 64, x.size(2));
        x.set(1, 2, 32, 1);
        check.no("sum of 32 and 33 KINDS", x.sum(0, 1, 3));
        check.due("size(3)", 0, x.size(3));
    }

    private static void noSuchBag() {
        check.sentence("BAG");
        CoinBag x = Check.small();
        String before = Check.all(x);
        for (int bag : Check.NO_BAGS) {
            check.throwsIndex("sum(" + bag + ", 0, 1)", () -> x.sum(bag, 0, 1));
            check.throwsIndex("sum(0, " + bag + ", 1)", () -> x.sum(0, bag, 1));
            check.throwsIndex("sum(0, 1, " + bag + ")", () -> x.sum(0, 1, bag));
        }
        check.same("wrong sums", x, before);
    }
}
