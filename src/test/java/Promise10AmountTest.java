public final class Promise10AmountTest {
    public static void main(String[] args) {
        Check check = new Check("Promise 10: amount");
        CoinBag x = Check.small();
        x.set(0, 65535, -1, Long.MIN_VALUE);
        x.set(0, 0, Long.MIN_VALUE, Long.MAX_VALUE);
        check.due("amount(0, 5, 1)", 10, x.amount(0, 5, 1));
        check.due("amount(0, 5, 2)", -4, x.amount(0, 5, 2));
        check.due("amount(0, 9, 0)", 7, x.amount(0, 9, 0));
        check.due("amount(1, 5, 1)", 3, x.amount(1, 5, 1));
        check.due("amount(1, 7, -1)", 2, x.amount(1, 7, -1));
        check.due("amount(0, 65535, -1)", Long.MIN_VALUE, x.amount(0, 65535, -1));
        check.due("amount(0, 0, MIN)", Long.MAX_VALUE, x.amount(0, 0, Long.MIN_VALUE));
        check.due("amount(0, 5, 0)", 0, x.amount(0, 5, 0));
        check.due("amount(0, 5, 3)", 0, x.amount(0, 5, 3));
        check.due("amount(0, 7, 1)", 0, x.amount(0, 7, 1));
        check.due("amount(0, 65535, 0)", 0, x.amount(0, 65535, 0));
        check.due("amount(0, 0, 0)", 0, x.amount(0, 0, 0));
        check.due("amount(7, 5, 1)", 0, x.amount(7, 5, 1));
        check.due("size(0)", 5, x.size(0));
        wrongInputs(check);
        check.end();
    }

    private static void wrongInputs(Check check) {
        CoinBag x = Check.small();
        String before = Check.all(x);
        for (int bag : Check.NO_BAGS) {
            check.throwsIndex("amount(" + bag + ", 5, 1)", () -> x.amount(bag, 5, 1));
            check.throwsIndex("amount(" + bag + ", -1, 1)", () -> x.amount(bag, -1, 1));
        }
        for (int policy : Check.NO_POLICIES) {
            check.throwsArgument("amount(0, " + policy + ", 1)", () -> x.amount(0, policy, 1));
        }
        check.same("wrong amounts", x, before);
    }
}
