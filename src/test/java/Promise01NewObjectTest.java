public final class Promise01NewObjectTest {
    private static final Check check = new Check("Promise 1: a new object");

    public static void main(String[] args) {
        allBagsAreEmpty();
        objectsAreApart();
        the512thCall();
        check.end();
    }

    private static void allBagsAreEmpty() {
        check.sentence("All BAGS are empty");
        CoinBag x = new CoinBag();
        for (int bag = 0; bag < 8; bag++) {
            int b = bag;
            check.due("size(" + bag + ")", 0, x.size(bag));
            check.due("amount(" + bag + ", 0, 0)", 0, x.amount(bag, 0, 0));
            check.throwsIndex("at(" + bag + ", 0, 0)", () -> x.at(b, 0, 0));
            check.due("look(" + bag + ", 0)", 0, x.look(bag, 0));
            check.due("look(" + bag + ", 1)", 0, x.look(bag, 1));
            check.due("look(" + bag + ", 2)", CoinBag.NONE, x.look(bag, 2));
            for (int other = 0; other < 8; other++) {
                check.due("compare(" + bag + ", " + other + ")", 0, x.compare(bag, other));
            }
        }
    }

    private static void objectsAreApart() {
        check.sentence("All BAGS are empty: whatever other objects have");
        CoinBag first = new CoinBag();
        first.set(0, 1, 1, 1);
        CoinBag second = new CoinBag();
        check.due("size(0) of a second object", 0, second.size(0));
        second.set(0, 2, 2, 2);
        check.bag("set on a second object", first, 0, "1/1:1");
    }

    /** An object that has been used for 511 calls and has BAGS 0 and 1. */
    private static CoinBag after511Calls() {
        CoinBag x = new CoinBag();
        for (int call = 1; call <= 509; call++) {
            x.put(0, 1, call % 60, 1);
        }
        x.times(0, -3, 1);
        x.clear(7);
        return x;
    }

    private static void the512thCall() {
        check.sentence("An object is used for at most 512 calls");
        check.yes("set as the 512th call", after511Calls().set(0, 2, 0, 1));
        check.yes("put as the 512th call", after511Calls().put(0, 1, 0, 1));
        check.yes("sum as the 512th call", after511Calls().sum(0, 1, 2));
        check.yes("less as the 512th call", after511Calls().less(0, 1, 2));
        check.no("times as the 512th call", after511Calls().times(0, Check.MAX, 2));
        check.throwsArgument("only as the 512th call", () -> after511Calls().only(0, 65536, true, 2));
        check.no("part as the 512th call", after511Calls().part(0, 0, 2));
        check.throwsIndex("clear as the 512th call", () -> after511Calls().clear(8));
        check.due("amount as the 512th call", 9, after511Calls().amount(0, 1, 29));
        check.due("size as the 512th call", 60, after511Calls().size(0));
        check.due("at as the 512th call", -24, after511Calls().at(1, 59, 2));
        check.due("compare as the 512th call", 1, after511Calls().compare(0, 1));
        check.yes("least as the 512th call", after511Calls().least(0, 1, 2));
        check.due("into as the 512th call", 1, after511Calls().into(0, 0));
        check.due("look as the 512th call", 60, after511Calls().look(1, 1));
    }
}
