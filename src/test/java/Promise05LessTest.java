public final class Promise05LessTest {
    private static final long MIN = Check.MIN;
    private static final long MAX = Check.MAX;
    private static final Check check = new Check("Promise 5: less");

    public static void main(String[] args) {
        takesAway();
        emptyBags();
        sameBags();
        tooLarge();
        tooSmall();
        justALong();
        moreThan64Kinds();
        just64Kinds();
        noSuchBag();
        check.end();
    }

    private static void takesAway() {
        check.sentence("BAG c becomes a less b");
        CoinBag x = Check.small();
        check.yes("less(0, 1, 2)", x.less(0, 1, 2));
        check.bag("less(0, 1, 2)", x, 2, "5/1:7 5/2:-4 7/18446744073709551615:-2 9/0:7");
        check.yes("less(1, 0, 2)", x.less(1, 0, 2));
        check.bag("less(1, 0, 2)", x, 2, "5/1:-7 5/2:4 7/18446744073709551615:2 9/0:-7");
        check.bag("less(1, 0, 2)", x, 0, "5/1:10 5/2:-4 9/0:7");
        check.bag("less(1, 0, 2)", x, 1, "5/1:3 7/18446744073709551615:2");
    }

    private static void emptyBags() {
        check.sentence("BAG c becomes a less b: empty ones");
        CoinBag x = Check.small();
        check.yes("less(0, 7, 3)", x.less(0, 7, 3));
        check.bag("less(0, 7, 3)", x, 3, "5/1:10 5/2:-4 9/0:7");
        check.yes("less(7, 0, 3)", x.less(7, 0, 3));
        check.bag("less(7, 0, 3)", x, 3, "5/1:-10 5/2:4 9/0:-7");
        check.yes("less(6, 7, 3)", x.less(6, 7, 3));
        check.bag("less(6, 7, 3)", x, 3, "");
        check.yes("less(0, 0, 2)", x.less(0, 0, 2));
        check.bag("less(0, 0, 2) to an empty BAG", x, 2, "");
        check.bag("less(0, 0, 2)", x, 0, "5/1:10 5/2:-4 9/0:7");
    }

    private static void sameBags() {
        check.sentence("BAG c becomes a less b: c may be one of them");
        CoinBag x = Check.small();
        check.yes("less(0, 1, 0)", x.less(0, 1, 0));
        check.bag("less(0, 1, 0)", x, 0, "5/1:7 5/2:-4 7/18446744073709551615:-2 9/0:7");
        check.yes("less(2, 1, 1)", x.less(2, 1, 1));
        check.bag("less(2, 1, 1)", x, 1, "1/1:1 5/1:-3 7/18446744073709551615:-2");
        check.yes("less(2, 2, 2)", x.less(2, 2, 2));
        check.bag("less(2, 2, 2)", x, 2, "");
    }

    private static void tooLarge() {
        check.sentence("likewise: false if it can't be done: too large");
        CoinBag x = new CoinBag();
        x.set(0, 1, 0, MIN);
        x.set(1, 1, 0, 1);
        x.set(2, 1, 0, MAX);
        x.set(3, 1, 0, -1);
        String before = Check.all(x);
        check.no("MAX less -1", x.less(2, 3, 2));
        check.no("nothing less MIN", x.less(7, 0, 7));
        check.no("1 less MIN", x.less(1, 0, 1));
        check.no("MAX less MIN", x.less(2, 0, 0));
        check.same("refused differences", x, before);
    }

    private static void tooSmall() {
        check.sentence("likewise: false if it can't be done: too small");
        CoinBag x = new CoinBag();
        x.set(0, 1, 0, MIN);
        x.set(1, 1, 0, 1);
        x.set(2, 1, 0, MAX);
        x.set(3, 1, 0, -2);
        String before = Check.all(x);
        check.no("MIN less 1", x.less(0, 1, 4));
        check.no("-2 less MAX", x.less(3, 2, 3));
        check.no("MIN less MAX", x.less(0, 2, 2));
        check.same("refused differences", x, before);
    }

    private static void justALong() {
        check.sentence("likewise: what is just a long can be done");
        CoinBag x = new CoinBag();
        x.set(0, 1, 0, MIN);
        x.set(1, 1, 0, 1);
        x.set(2, 1, 0, MAX);
        x.set(3, 1, 0, -1);
        check.yes("-1 less MIN", x.less(3, 0, 4));
        check.bag("-1 less MIN", x, 4, "1/0:9223372036854775807");
        check.yes("-1 less MAX", x.less(3, 2, 5));
        check.bag("-1 less MAX", x, 5, "1/0:-9223372036854775808");
        check.yes("nothing less MAX", x.less(7, 2, 6));
        check.bag("nothing less MAX", x, 6, "1/0:-9223372036854775807");
        check.yes("MIN less MIN", x.less(0, 0, 6));
        check.bag("MIN less MIN", x, 6, "");
        check.yes("MIN less -1", x.less(0, 3, 6));
        check.bag("MIN less -1", x, 6, "1/0:-9223372036854775807");
        check.yes("MAX less 1", x.less(2, 1, 6));
        check.bag("MAX less 1", x, 6, "1/0:9223372036854775806");
    }

    private static void moreThan64Kinds() {
        check.sentence("likewise: false if it can't be done: more than 64 KINDS");
        CoinBag x = new CoinBag();
        Check.fill(x, 0, 1, 64, 1);
        x.set(1, 2, 0, 1);
        check.no("less to 65 KINDS", x.less(0, 1, 1));
        check.bag("refused less", x, 1, "2/0:1");
        check.no("less to 65 KINDS, a the small one", x.less(1, 0, 0));
        check.bag("refused less", x, 0, Check.filled(1, 64, 1));
        check.no("less to 65 KINDS in an empty BAG", x.less(0, 1, 7));
        check.bag("refused less", x, 7, "");
    }

    private static void just64Kinds() {
        check.sentence("likewise: 64 KINDS can be done");
        CoinBag x = new CoinBag();
        Check.fill(x, 0, 1, 64, 1);
        check.yes("nothing less 64 KINDS", x.less(7, 0, 2));
        check.bag("nothing less 64 KINDS", x, 2, Check.filled(1, 64, -1));
        x.set(1, 2, 0, 1);
        x.set(1, 1, 0, 1);
        check.yes("less to 64 KINDS, one of 65 becoming 0", x.less(0, 1, 4));
        check.due("size(4)", 64, x.size(4));
        check.due("at(4, 0, 1)", 1, x.at(4, 0, 1));
        check.due("at(4, 63, 2)", -1, x.at(4, 63, 2));
    }

    private static void noSuchBag() {
        check.sentence("likewise: BAG");
        CoinBag x = Check.small();
        String before = Check.all(x);
        for (int bag : Check.NO_BAGS) {
            check.throwsIndex("less(" + bag + ", 0, 1)", () -> x.less(bag, 0, 1));
            check.throwsIndex("less(0, " + bag + ", 1)", () -> x.less(0, bag, 1));
            check.throwsIndex("less(0, 1, " + bag + ")", () -> x.less(0, 1, bag));
        }
        check.same("wrong differences", x, before);
    }
}
