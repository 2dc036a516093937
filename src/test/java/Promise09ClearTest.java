public final class Promise09ClearTest {
    public static void main(String[] args) {
        Check check = new Check("Promise 9: clear");
        CoinBag x = Check.small();
        x.clear(0);
        check.due("all BAGS after clear(0)",
                "0[]1[5/1:3 7/18446744073709551615:2]2[1/1:1]3[]4[]5[]6[]7[]", Check.all(x));
        check.due("amount(0, 5, 1)", 0, x.amount(0, 5, 1));
        x.clear(0);
        check.due("size(0) after clear(0) again", 0, x.size(0));
        check.yes("put(0, 5, 1, 4)", x.put(0, 5, 1, 4));
        check.bag("put(0, 5, 1, 4)", x, 0, "5/1:4");
        x.set(7, 1, 1, 1);
        x.clear(7);
        check.due("size(7) after clear(7)", 0, x.size(7));
        wrongInputs(check);
        fullBag(check);
        check.end();
    }

    private static void fullBag(Check check) {
        CoinBag x = new CoinBag();
        Check.fill(x, 3, 1, 64, 2);
        x.clear(3);
        check.due("size(3) after clear(3)", 0, x.size(3));
        check.yes("set(3, 2, 2, 2)", x.set(3, 2, 2, 2));
        check.bag("set(3, 2, 2, 2)", x, 3, "2/2:2");
    }

    private static void wrongInputs(Check check) {
        CoinBag x = Check.small();
        String before = Check.all(x);
        for (int bag : Check.NO_BAGS) {
            check.throwsIndex("clear(" + bag + ")", () -> x.clear(bag));
        }
        check.same("wrong clears", x, before);
    }
}
