public final class Promise08PartTest {
    private static final Check check = new Check("Promise 8: part");

    public static void main(String[] args) {
        picks();
        sameBag();
        refuses();
        wrongInputs();
        check.end();
    }

    private static void picks() {
        CoinBag x = Check.small();
        x.set(0, 0, 0, -1);
        x.set(0, 0, 1, 1);
        check.yes("part(0, 1, 2)", x.part(0, 1, 2));
        check.bag("part(0, 1, 2)", x, 2, "0/1:1 5/1:10 9/0:7");
        check.yes("part(0, -1, 2)", x.part(0, -1, 2));
        check.bag("part(0, -1, 2)", x, 2, "0/0:1 5/2:4");
        check.bag("both parts", x, 0, "0/0:-1 0/1:1 5/1:10 5/2:-4 9/0:7");
        check.yes("part(1, -1, 2)", x.part(1, -1, 2));
        check.bag("part(1, -1, 2)", x, 2, "");
        check.yes("part(7, 1, 1)", x.part(7, 1, 1));
        check.bag("part(7, 1, 1)", x, 1, "");
        check.yes("part(7, -1, 0)", x.part(7, -1, 0));
        check.bag("part(7, -1, 0)", x, 0, "");
    }

    private static void sameBag() {
        CoinBag x = Check.small();
        check.yes("part(0, -1, 0)", x.part(0, -1, 0));
        check.bag("part(0, -1, 0)", x, 0, "5/2:4");
        check.yes("part(0, 1, 0)", x.part(0, 1, 0));
        check.bag("part(0, 1, 0)", x, 0, "5/2:4");
        check.yes("part(0, -1, 0) again", x.part(0, -1, 0));
        check.bag("part(0, -1, 0) again", x, 0, "");
    }

    private static void refuses() {
        CoinBag x = Check.small();
        x.set(0, 8, 8, Long.MIN_VALUE);
        x.set(3, 8, 8, Long.MIN_VALUE + 1);
        x.set(3, 8, 9, Long.MAX_VALUE);
        String before = Check.all(x);
        check.no("part(0, -1, 0) of MIN", x.part(0, -1, 0));
        check.no("part(0, -1, 2) of MIN", x.part(0, -1, 2));
        for (int sign : new int[] {0, 2, -2, Integer.MIN_VALUE, Integer.MAX_VALUE}) {
            check.no("part(0, " + sign + ", 0)", x.part(0, sign, 0));
            check.no("part(7, " + sign + ", 1)", x.part(7, sign, 1));
        }
        check.same("refused parts", x, before);
        check.yes("part(0, 1, 4) beside MIN", x.part(0, 1, 4));
        check.bag("part(0, 1, 4) beside MIN", x, 4, "5/1:10 9/0:7");
        check.yes("part(3, -1, 4)", x.part(3, -1, 4));
        check.bag("part(3, -1, 4)", x, 4, "8/8:9223372036854775807");
        check.yes("part(3, 1, 4)", x.part(3, 1, 4));
        check.bag("part(3, 1, 4)", x, 4, "8/9:9223372036854775807");
    }

    private static void wrongInputs() {
        CoinBag x = Check.small();
        String before = Check.all(x);
        for (int bag : Check.NO_BAGS) {
            check.throwsIndex("part(" + bag + ", 1, 0)", () -> x.part(bag, 1, 0));
            check.throwsIndex("part(0, -1, " + bag + ")", () -> x.part(0, -1, bag));
            check.throwsIndex("part(" + bag + ", 0, 0)", () -> x.part(bag, 0, 0));
            check.throwsIndex("part(0, 2, " + bag + ")", () -> x.part(0, 2, bag));
        }
        check.same("wrong parts", x, before);
    }
}
