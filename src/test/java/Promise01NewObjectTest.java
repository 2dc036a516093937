public final class Promise01NewObjectTest {
    public static void main(String[] args) {
        Check check = new Check("Promise 1: a new object");
        CoinBag x = new CoinBag();
        for (int bag = 0; bag < 8; bag++) {
            check.due("size(" + bag + ")", 0, x.size(bag));
            check.due("amount(" + bag + ", 0, 0)", 0, x.amount(bag, 0, 0));
            check.due("look(" + bag + ", 2)", CoinBag.NONE, x.look(bag, 2));
        }
        objectsAreApart(check);
        check.due("NONE", -1, CoinBag.NONE);
        check.end();
    }

    private static void objectsAreApart(Check check) {
        CoinBag first = new CoinBag();
        first.set(0, 1, 1, 1);
        CoinBag second = new CoinBag();
        check.due("size(0) of a second object", 0, second.size(0));
        second.set(0, 2, 2, 2);
        check.bag("set on a second object", first, 0, "1/1:1");
    }
}
