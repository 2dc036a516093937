public final class Promise02SetTest {
    private static final long MIN = Check.MIN;
    private static final long MAX = Check.MAX;
    private static final Check check = new Check("Promise 2: set");

    public static void main(String[] args) {
        newKinds();
        kindsThatAreThere();
        toZero();
        edgesOfALong();
        the64thAndThe65thKind();
        aFullBagChangesStill();
        noSuchBag();
        noSuchPolicy();
        check.end();
    }

    private static void newKinds() {
        check.sentence("The AMOUNT of a KIND becomes this: true");
        CoinBag x = new CoinBag();
        check.yes("set(3, 5, -1, 1)", x.set(3, 5, -1, 1));
        check.bag("set(3, 5, -1, 1) in an empty BAG", x, 3, "5/18446744073709551615:1");
        check.yes("set(3, 5, 0, 2)", x.set(3, 5, 0, 2));
        check.yes("set(3, 4, 9, 3)", x.set(3, 4, 9, 3));
        check.yes("set(3, 5, MIN, 4)", x.set(3, 5, MIN, 4));
        check.yes("set(3, 5, MAX, 5)", x.set(3, 5, MAX, 5));
        check.yes("set(3, 6, 0, 6)", x.set(3, 6, 0, 6));
        check.bag("six sets", x, 3, "4/9:3 5/0:2 5/9223372036854775807:5 5/9223372036854775808:4"
                + " 5/18446744073709551615:1 6/0:6");
        check.due("size(2)", 0, x.size(2));
    }

    private static void kindsThatAreThere() {
        check.sentence("The AMOUNT of a KIND becomes this: not so much more");
        CoinBag x = Check.small();
        check.yes("set(0, 5, 2, 8)", x.set(0, 5, 2, 8));
        check.bag("set(0, 5, 2, 8)", x, 0, "5/1:10 5/2:8 9/0:7");
        check.yes("set(0, 5, 2, 8) again", x.set(0, 5, 2, 8));
        check.bag("set(0, 5, 2, 8) again", x, 0, "5/1:10 5/2:8 9/0:7");
        check.yes("set(0, 5, 1, -8)", x.set(0, 5, 1, -8));
        check.yes("set(0, 9, 0, 1)", x.set(0, 9, 0, 1));
        check.bag("sets of the first and the last KIND", x, 0, "5/1:-8 5/2:8 9/0:1");
    }

    private static void toZero() {
        check.sentence("The AMOUNT of a KIND becomes this: 0 too");
        CoinBag x = Check.small();
        check.yes("set(7, 5, 1, 0) in an empty BAG", x.set(7, 5, 1, 0));
        check.due("size(7)", 0, x.size(7));
        check.yes("set(0, 5, 1, 0)", x.set(0, 5, 1, 0));
        check.bag("set(0, 5, 1, 0)", x, 0, "5/2:-4 9/0:7");
        check.yes("set(0, 5, 1, 0) again", x.set(0, 5, 1, 0));
        check.bag("set(0, 5, 1, 0) again", x, 0, "5/2:-4 9/0:7");
        check.yes("set(0, 9, 0, 0)", x.set(0, 9, 0, 0));
        check.yes("set(0, 5, 2, 0)", x.set(0, 5, 2, 0));
        check.due("size(0)", 0, x.size(0));
    }

    private static void edgesOfALong() {
        check.sentence("The AMOUNT of a KIND becomes this: any long");
        CoinBag x = new CoinBag();
        check.yes("set(7, 65535, 0, MIN)", x.set(7, 65535, 0, MIN));
        check.yes("set(7, 0, 0, MAX)", x.set(7, 0, 0, MAX));
        check.bag("two sets", x, 7, "0/0:9223372036854775807 65535/0:-9223372036854775808");
        // What was there before is no part of the new AMOUNT, so there is nothing to wrap round.
        check.yes("set of MIN over MAX", x.set(7, 0, 0, MIN));
        check.yes("set of MAX over MIN", x.set(7, 65535, 0, MAX));
        check.bag("two sets over others", x, 7, "0/0:-9223372036854775808 65535/0:9223372036854775807");
    }

    private static void the64thAndThe65thKind() {
        check.sentence("false if it can't be done");
        CoinBag x = new CoinBag();
        for (int i = 0; i < 64; i++) {
            check.yes("set of KIND " + (i + 1), x.set(0, 100, 2 * i, i + 1));
        }
        x.times(0, 1, 1);
        check.no("set of a 65th KIND in front", x.set(0, 99, 0, 1));
        check.no("set of a 65th KIND between", x.set(0, 100, 63, 1));
        check.no("set of a 65th KIND behind", x.set(0, 101, 0, 1));
        check.due("compare with the copy", 0, x.compare(0, 1));
        check.due("size(0)", 64, x.size(0));
        check.due("amount(0, 99, 0)", 0, x.amount(0, 99, 0));
        for (int i = 0; i < 64; i++) {
            check.due("amount(0, 100, " + 2 * i + ")", i + 1, x.amount(0, 100, 2 * i));
        }
    }

    private static void aFullBagChangesStill() {
        check.sentence("false if it can't be done: in a full BAG all that gives no new KIND can");
        CoinBag x = new CoinBag();
        Check.fill(x, 0, 100, 64, 1);
        check.yes("set of a 65th KIND to 0", x.set(0, 99, 0, 0));
        check.due("size(0)", 64, x.size(0));
        check.yes("set of the first KIND", x.set(0, 100, 0, -4));
        check.yes("set of the last KIND", x.set(0, 100, 63, -5));
        check.due("amount(0, 100, 0)", -4, x.amount(0, 100, 0));
        check.due("amount(0, 100, 63)", -5, x.amount(0, 100, 63));
        check.yes("set of a KIND to 0", x.set(0, 100, 5, 0));
        check.yes("set of a new KIND in its place", x.set(0, 101, 0, 1));
        check.no("set of one more", x.set(0, 102, 0, 1));
        check.due("size(0)", 64, x.size(0));
        check.due("at(0, 5, 1)", 6, x.at(0, 5, 1));
        check.due("at(0, 63, 0)", 101, x.at(0, 63, 0));
    }

    private static void noSuchBag() {
        check.sentence("BAG");
        CoinBag x = Check.small();
        String before = Check.all(x);
        for (int bag : Check.NO_BAGS) {
            check.throwsIndex("set(" + bag + ", 0, 0, 1)", () -> x.set(bag, 0, 0, 1));
            check.throwsIndex("set(" + bag + ", -1, 0, 1)", () -> x.set(bag, -1, 0, 1));
            check.throwsIndex("set(" + bag + ", 0, 0, 0)", () -> x.set(bag, 0, 0, 0));
        }
        check.same("wrong sets", x, before);
    }

    private static void noSuchPolicy() {
        check.sentence("POLICY");
        CoinBag x = Check.small();
        String before = Check.all(x);
        for (int policy : Check.NO_POLICIES) {
            check.throwsArgument("set(0, " + policy + ", 0, 1)", () -> x.set(0, policy, 0, 1));
            check.throwsArgument("set(0, " + policy + ", 0, 0)", () -> x.set(0, policy, 0, 0));
        }
        check.same("wrong sets", x, before);
    }
}
