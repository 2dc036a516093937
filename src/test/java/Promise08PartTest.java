public final class Promise08PartTest {
    private static final long MIN = Check.MIN;
    private static final long MAX = Check.MAX;
    private static final Check check = new Check("Promise 8: part");

    public static void main(String[] args) {
        aboveZero();
        belowZero();
        emptyParts();
        sameBag();
        noSign();
        noLong();
        justALong();
        fullBag();
        noSuchBag();
        check.end();
    }

    private static CoinBag five() {
        CoinBag x = Check.small();
        x.set(0, 0, 0, -1);
        x.set(0, 0, 1, 1);
        return x;
    }

    private static void aboveZero() {
        check.sentence("the AMOUNTS above 0 (sign 1)");
        CoinBag x = five();
        check.yes("part(0, 1, 2)", x.part(0, 1, 2));
        check.bag("part(0, 1, 2)", x, 2, "0/1:1 5/1:10 9/0:7");
        check.bag("part(0, 1, 2)", x, 0, "0/0:-1 0/1:1 5/1:10 5/2:-4 9/0:7");
    }

    private static void belowZero() {
        check.sentence("or those below 0 with the other sign (sign -1): true");
        CoinBag x = five();
        check.yes("part(0, -1, 2)", x.part(0, -1, 2));
        check.bag("part(0, -1, 2)", x, 2, "0/0:1 5/2:4");
        check.bag("part(0, -1, 2)", x, 0, "0/0:-1 0/1:1 5/1:10 5/2:-4 9/0:7");
    }

    private static void emptyParts() {
        check.sentence("BAG c has, of BAG a: nothing");
        CoinBag x = Check.small();
        check.yes("part(1, -1, 2), where all are above 0", x.part(1, -1, 2));
        check.bag("part(1, -1, 2)", x, 2, "");
        x.times(1, -1, 3);
        x.set(2, 1, 1, 1);
        check.yes("part(3, 1, 2), where all are below 0", x.part(3, 1, 2));
        check.bag("part(3, 1, 2)", x, 2, "");
        check.yes("part(7, 1, 1), of an empty BAG", x.part(7, 1, 1));
        check.bag("part(7, 1, 1)", x, 1, "");
        check.yes("part(7, -1, 0), of an empty BAG", x.part(7, -1, 0));
        check.bag("part(7, -1, 0)", x, 0, "");
    }

    private static void sameBag() {
        check.sentence("BAG c has, of BAG a: c may be a");
        CoinBag x = Check.small();
        check.yes("part(0, -1, 0)", x.part(0, -1, 0));
        check.bag("part(0, -1, 0)", x, 0, "5/2:4");
        check.yes("part(0, 1, 0)", x.part(0, 1, 0));
        check.bag("part(0, 1, 0)", x, 0, "5/2:4");
        check.yes("part(0, -1, 0) again", x.part(0, -1, 0));
        check.bag("part(0, -1, 0) again", x, 0, "");
    }

    private static void noSign() {
        check.sentence("false if sign is none");
        CoinBag x = Check.small();
        String before = Check.all(x);
        for (int sign : new int[] {0, 2, -2, 3, 255, 65537, Integer.MIN_VALUE, Integer.MAX_VALUE}) {
            check.no("part(0, " + sign + ", 0)", x.part(0, sign, 0));
            check.no("part(0, " + sign + ", 2)", x.part(0, sign, 2));
            check.no("part(7, " + sign + ", 1)", x.part(7, sign, 1));
        }
        check.same("parts of no sign", x, before);
    }

    private static void noLong() {
        check.sentence("or it can't be done");
        for (int policy : new int[] {0, 8, 65535}) {
            CoinBag x = Check.small();
            x.set(0, policy, 8, MIN);
            String before = Check.all(x);
            check.no("part(0, -1, 0) with MIN at POLICY " + policy, x.part(0, -1, 0));
            check.no("part(0, -1, 2) with MIN at POLICY " + policy, x.part(0, -1, 2));
            check.no("part(0, -1, 7) with MIN at POLICY " + policy, x.part(0, -1, 7));
            check.same("refused parts", x, before);
        }
    }

    private static void justALong() {
        check.sentence("or it can't be done: what is just a long can");
        CoinBag x = Check.small();
        x.set(0, 8, 8, MIN);
        x.set(3, 8, 8, MIN + 1);
        x.set(3, 8, 9, MAX);
        check.yes("part(0, 1, 4) beside MIN", x.part(0, 1, 4));
        check.bag("part(0, 1, 4) beside MIN", x, 4, "5/1:10 9/0:7");
        check.yes("part(3, -1, 4)", x.part(3, -1, 4));
        check.bag("part(3, -1, 4)", x, 4, "8/8:9223372036854775807");
        check.yes("part(3, 1, 4)", x.part(3, 1, 4));
        check.bag("part(3, 1, 4)", x, 4, "8/9:9223372036854775807");
    }

    private static void fullBag() {
        check.sentence("BAG c has, of BAG a: all of a full one");
        CoinBag x = new CoinBag();
        Check.fill(x, 0, 1, 64, -2);
        check.yes("part(0, -1, 1)", x.part(0, -1, 1));
        check.bag("part(0, -1, 1)", x, 1, Check.filled(1, 64, 2));
        check.yes("part(1, 1, 2)", x.part(1, 1, 2));
        check.due("compare(1, 2)", 0, x.compare(1, 2));
        check.yes("part(0, 1, 2)", x.part(0, 1, 2));
        check.due("size(2)", 0, x.size(2));
    }

    private static void noSuchBag() {
        check.sentence("BAG");
        CoinBag x = Check.small();
        String before = Check.all(x);
        for (int bag : Check.NO_BAGS) {
            check.throwsIndex("part(" + bag + ", 1, 0)", () -> x.part(bag, 1, 0));
            check.throwsIndex("part(0, -1, " + bag + ")", () -> x.part(0, -1, bag));
            check.throwsIndex("part(" + bag + ", 0, 0)", () -> x.part(bag, 0, 0));
            check.throwsIndex("part(0, 2, " + bag + ")", () -> x.part(0, 2, bag));
        }
        check.same("wrong parts", x, before);
    }
}
