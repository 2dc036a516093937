public final class Promise10AmountTest {
    private static final long MIN = Check.MIN;
    private static final long MAX = Check.MAX;
    private static final Check check = new Check("Promise 10: amount");

    public static void main(String[] args) {
        kindsThatAreThere();
        edges();
        kindsThatAreNotThere();
        fullBag();
        changesNothing();
        noSuchBag();
        noSuchPolicy();
        check.end();
    }

    private static void kindsThatAreThere() {
        check.sentence("The AMOUNT of a KIND");
        CoinBag x = Check.small();
        check.due("amount(0, 5, 1)", 10, x.amount(0, 5, 1));
        check.due("amount(0, 5, 2)", -4, x.amount(0, 5, 2));
        check.due("amount(0, 9, 0)", 7, x.amount(0, 9, 0));
        check.due("amount(1, 5, 1)", 3, x.amount(1, 5, 1));
        check.due("amount(1, 7, -1)", 2, x.amount(1, 7, -1));
    }

    private static void edges() {
        check.sentence("The AMOUNT of a KIND: the least and the greatest");
        CoinBag x = Check.small();
        x.set(0, 65535, -1, MIN);
        x.set(0, 0, MIN, MAX);
        check.due("amount(0, 65535, -1)", MIN, x.amount(0, 65535, -1));
        check.due("amount(0, 0, MIN)", MAX, x.amount(0, 0, MIN));
    }

    private static void kindsThatAreNotThere() {
        check.sentence("The AMOUNT of a KIND: 0 of all others");
        CoinBag x = Check.small();
        check.due("amount(0, 5, 0)", 0, x.amount(0, 5, 0));
        check.due("amount(0, 5, 3)", 0, x.amount(0, 5, 3));
        check.due("amount(0, 5, 1 + 2 to the 32nd)", 0, x.amount(0, 5, 1 + (1L << 32)));
        check.due("amount(0, 7, 1)", 0, x.amount(0, 7, 1));
        check.due("amount(0, 65535, 0)", 0, x.amount(0, 65535, 0));
        check.due("amount(0, 0, 0)", 0, x.amount(0, 0, 0));
        check.due("amount(7, 5, 1) of an empty BAG", 0, x.amount(7, 5, 1));
        x.set(0, 9, 0, 0);
        check.due("amount(0, 9, 0) after a set to 0", 0, x.amount(0, 9, 0));
    }

    private static void fullBag() {
        check.sentence("The AMOUNT of a KIND: of a full BAG");
        CoinBag x = new CoinBag();
        for (int i = 0; i < 64; i++) {
            x.set(0, 1, i, i + 1);
        }
        for (int i = 0; i < 64; i++) {
            check.due("amount(0, 1, " + i + ")", i + 1, x.amount(0, 1, i));
        }
        check.due("amount(0, 1, 64)", 0, x.amount(0, 1, 64));
        check.due("amount(0, 0, 0)", 0, x.amount(0, 0, 0));
    }

    private static void changesNothing() {
        check.sentence("The AMOUNT of a KIND: asking for it changes nothing");
        CoinBag x = Check.small();
        String before = Check.all(x);
        x.amount(0, 5, 1);
        x.amount(0, 8, 1);
        x.amount(7, 8, 1);
        check.same("amounts", x, before);
    }

    private static void noSuchBag() {
        check.sentence("BAG");
        CoinBag x = Check.small();
        for (int bag : Check.NO_BAGS) {
            check.throwsIndex("amount(" + bag + ", 5, 1)", () -> x.amount(bag, 5, 1));
            check.throwsIndex("amount(" + bag + ", -1, 1)", () -> x.amount(bag, -1, 1));
        }
    }

    private static void noSuchPolicy() {
        check.sentence("POLICY");
        CoinBag x = Check.small();
        for (int policy : Check.NO_POLICIES) {
            check.throwsArgument("amount(0, " + policy + ", 1)", () -> x.amount(0, policy, 1));
            check.throwsArgument("amount(7, " + policy + ", 1)", () -> x.amount(7, policy, 1));
        }
    }
}
