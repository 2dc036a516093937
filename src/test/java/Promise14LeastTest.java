public final class Promise14LeastTest {
    private static final Check check = new Check("Promise 14: least");

    public static void main(String[] args) {
        kindByKind();
        zeroInOneOfThem();
        emptyBags();
        edgesOfALong();
        sameBags();
        moreThan64Kinds();
        just64Kinds();
        noSuchBag();
        check.end();
    }

    private static void kindByKind() {
        check.sentence("The least of two BAGS, KIND by KIND, comes to c");
        CoinBag x = Check.small();
        x.set(1, 9, 0, -3);
        x.set(1, 5, 2, 6);
        check.yes("least(0, 1, 2)", x.least(0, 1, 2));
        check.bag("least(0, 1, 2)", x, 2, "5/1:3 5/2:-4 9/0:-3");
        check.yes("least(1, 0, 2)", x.least(1, 0, 2));
        check.bag("least(1, 0, 2)", x, 2, "5/1:3 5/2:-4 9/0:-3");
        check.bag("least", x, 0, "5/1:10 5/2:-4 9/0:7");
        check.bag("least", x, 1, "5/1:3 5/2:6 7/18446744073709551615:2 9/0:-3");
    }

    private static void zeroInOneOfThem() {
        check.sentence("(also if it is 0 in one of them)");
        CoinBag x = new CoinBag();
        x.set(0, 1, 0, 5);
        x.set(0, 2, 0, -5);
        x.set(1, 3, 0, 6);
        x.set(1, 4, 0, -6);
        check.yes("least(0, 1, 2)", x.least(0, 1, 2));
        check.bag("least(0, 1, 2)", x, 2, "2/0:-5 4/0:-6");
        check.yes("least(1, 0, 2)", x.least(1, 0, 2));
        check.bag("least(1, 0, 2)", x, 2, "2/0:-5 4/0:-6");
    }

    private static void emptyBags() {
        check.sentence("The least of two BAGS: empty ones");
        CoinBag x = Check.small();
        check.yes("least(0, 7, 3)", x.least(0, 7, 3));
        check.bag("least(0, 7, 3)", x, 3, "5/2:-4");
        check.yes("least(7, 0, 4)", x.least(7, 0, 4));
        check.bag("least(7, 0, 4)", x, 4, "5/2:-4");
        check.yes("least(7, 6, 3)", x.least(7, 6, 3));
        check.bag("least(7, 6, 3)", x, 3, "");
        check.yes("least(1, 2, 3)", x.least(1, 2, 3));
        check.bag("least(1, 2, 3) to an empty BAG", x, 3, "");
    }

    private static void edgesOfALong() {
        check.sentence("The least of two BAGS: to the edges of a long");
        CoinBag x = new CoinBag();
        x.set(4, 5, 1, Check.MIN);
        x.set(5, 5, 1, Check.MAX);
        check.yes("least(4, 5, 6)", x.least(4, 5, 6));
        check.bag("least(4, 5, 6)", x, 6, "5/1:-9223372036854775808");
        check.yes("least(5, 5, 6)", x.least(5, 5, 6));
        check.bag("least(5, 5, 6)", x, 6, "5/1:9223372036854775807");
        check.yes("least(7, 4, 6)", x.least(7, 4, 6));
        check.bag("least(7, 4, 6)", x, 6, "5/1:-9223372036854775808");
        check.yes("least(7, 5, 6)", x.least(7, 5, 6));
        check.bag("least(7, 5, 6)", x, 6, "");
    }

    private static void sameBags() {
        check.sentence("comes to c: which may be one of them");
        CoinBag x = Check.small();
        check.yes("least(0, 0, 0)", x.least(0, 0, 0));
        check.bag("least(0, 0, 0)", x, 0, "5/1:10 5/2:-4 9/0:7");
        check.yes("least(0, 1, 1)", x.least(0, 1, 1));
        check.bag("least(0, 1, 1)", x, 1, "5/1:3 5/2:-4");
        check.yes("least(0, 1, 0)", x.least(0, 1, 0));
        check.bag("least(0, 1, 0)", x, 0, "5/1:3 5/2:-4");
    }

    private static void moreThan64Kinds() {
        check.sentence("false if it can't be done");
        CoinBag x = new CoinBag();
        Check.fill(x, 0, 1, 64, -1);
        x.set(1, 2, 0, -1);
        x.set(2, 0, 0, -1);
        check.no("least to 65 KINDS", x.least(0, 1, 1));
        check.bag("refused least", x, 1, "2/0:-1");
        check.no("least to 65 KINDS over b", x.least(1, 0, 0));
        check.no("least to 65 KINDS, the first one new", x.least(0, 2, 0));
        check.bag("refused least", x, 0, Check.filled(1, 64, -1));
        check.no("least to 65 KINDS in an empty BAG", x.least(0, 1, 7));
        check.bag("refused least", x, 7, "");
    }

    private static void just64Kinds() {
        check.sentence("false if it can't be done: 64 KINDS can");
        CoinBag x = new CoinBag();
        Check.fill(x, 0, 1, 64, -1);
        x.set(1, 2, 0, -1);
        x.set(2, 2, 0, 1);
        check.yes("least of 65 KINDS, one above 0", x.least(0, 2, 4));
        check.bag("least of 65 KINDS, one above 0", x, 4, Check.filled(1, 64, -1));
        x.times(0, -1, 5);
        check.yes("least of 65 KINDS, all but one above 0", x.least(5, 1, 5));
        check.bag("least of 65 KINDS, all but one above 0", x, 5, "2/0:-1");
        x.set(0, 1, 0, 3);
        check.yes("least of 65 KINDS, one of the 64 above 0", x.least(0, 1, 6));
        check.due("size(6)", 64, x.size(6));
    }

    private static void noSuchBag() {
        check.sentence("BAG");
        CoinBag x = Check.small();
        String before = Check.all(x);
        for (int bag : Check.NO_BAGS) {
            check.throwsIndex("least(" + bag + ", 0, 1)", () -> x.least(bag, 0, 1));
            check.throwsIndex("least(0, " + bag + ", 1)", () -> x.least(0, bag, 1));
            check.throwsIndex("least(0, 1, " + bag + ")", () -> x.least(0, 1, bag));
        }
        check.same("wrong leasts", x, before);
    }
}
