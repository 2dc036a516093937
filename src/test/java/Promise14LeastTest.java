public final class Promise14LeastTest {
    private static final Check check = new Check("Promise 14: least");

    public static void main(String[] args) {
        picks();
        sameBags();
        countsKindsOfTheResult();
        wrongInputs();
        check.end();
    }

    private static void picks() {
        CoinBag x = Check.small();
        x.set(1, 9, 0, -3);
        x.set(1, 9, 1, -5);
        check.yes("least(0, 1, 2)", x.least(0, 1, 2));
        check.bag("least(0, 1, 2)", x, 2, "5/1:3 5/2:-4 9/0:-3 9/1:-5");
        check.yes("least(1, 0, 2)", x.least(1, 0, 2));
        check.bag("least(1, 0, 2)", x, 2, "5/1:3 5/2:-4 9/0:-3 9/1:-5");
        check.bag("least", x, 0, "5/1:10 5/2:-4 9/0:7");
        check.yes("least(0, 7, 3)", x.least(0, 7, 3));
        check.bag("least(0, 7, 3)", x, 3, "5/2:-4");
        check.yes("least(7, 6, 3)", x.least(7, 6, 3));
        check.bag("least(7, 6, 3)", x, 3, "");
        x.set(4, 5, 1, Long.MIN_VALUE);
        x.set(5, 5, 1, Long.MAX_VALUE);
        check.yes("least(4, 5, 6)", x.least(4, 5, 6));
        check.bag("least(4, 5, 6)", x, 6, "5/1:-9223372036854775808");
    }

    private static void sameBags() {
        CoinBag x = Check.small();
        check.yes("least(0, 0, 0)", x.least(0, 0, 0));
        check.bag("least(0, 0, 0)", x, 0, "5/1:10 5/2:-4 9/0:7");
        check.yes("least(0, 1, 1)", x.least(0, 1, 1));
        check.bag("least(0, 1, 1)", x, 1, "5/1:3 5/2:-4");
        check.yes("least(0, 1, 0)", x.least(0, 1, 0));
        check.bag("least(0, 1, 0)", x, 0, "5/1:3 5/2:-4");
    }

    private static void countsKindsOfTheResult() {
        CoinBag x = new CoinBag();
        Check.fill(x, 0, 1, 64, -1);
        x.set(1, 2, 0, -1);
        x.set(2, 2, 0, 1);
        x.times(0, 1, 3);
        check.no("least to 65 KINDS", x.least(0, 1, 1));
        check.bag("refused least", x, 1, "2/0:-1");
        check.no("least to 65 KINDS over b", x.least(1, 0, 0));
        check.due("compare(0, 3)", 0, x.compare(0, 3));
        check.yes("least of 65 KINDS, one above 0", x.least(0, 2, 4));
        check.due("compare(0, 4)", 0, x.compare(0, 4));
        x.times(0, -1, 5);
        check.yes("least of 65 KINDS, all but one above 0", x.least(5, 1, 5));
        check.bag("least of 65 KINDS, all but one above 0", x, 5, "2/0:-1");
    }

    private static void wrongInputs() {
        CoinBag x = Check.small();
        String before = Check.all(x);
        for (int bag : Check.NO_BAGS) {
            check.throwsIndex("least(" + bag + ", 0, 1)", () -> x.least(bag, 0, 1));
            check.throwsIndex("least(0, " + bag + ", 1)", () -> x.least(0, bag, 1));
            check.throwsIndex("least(0, 1, " + bag + ")", () -> x.least(0, 1, bag));
        }
        check.same("wrong leasts", x, before);
    }
}
