public final class Promise09ClearTest {
    private static final Check check = new Check("Promise 9: clear");

    public static void main(String[] args) {
        empties();
        emptyBag();
        fullBag();
        noSuchBag();
        check.end();
    }

    private static void empties() {
        check.sentence("A BAG is empty");
        CoinBag x = Check.small();
        x.set(7, 1, 1, 1);
        x.clear(0);
        check.due("all BAGS after clear(0)",
                "0[]1[5/1:3 7/18446744073709551615:2]2[1/1:1]3[]4[]5[]6[]7[1/1:1]", Check.all(x));
        check.due("amount(0, 5, 1)", 0, x.amount(0, 5, 1));
        check.due("look(0, 0)", 0, x.look(0, 0));
        check.due("look(0, 2)", CoinBag.NONE, x.look(0, 2));
        check.throwsIndex("at(0, 0, 0)", () -> x.at(0, 0, 0));
        check.yes("put(0, 5, 1, 4)", x.put(0, 5, 1, 4));
        check.bag("put(0, 5, 1, 4)", x, 0, "5/1:4");
        x.clear(7);
        check.due("size(7) after clear(7)", 0, x.size(7));
    }

    private static void emptyBag() {
        check.sentence("A BAG is empty: as it was");
        CoinBag x = Check.small();
        String before = Check.all(x);
        x.clear(3);
        x.clear(3);
        x.clear(7);
        check.same("clears of empty BAGS", x, before);
    }

    private static void fullBag() {
        check.sentence("A BAG is empty: a full one");
        CoinBag x = new CoinBag();
        Check.fill(x, 3, 1, 64, 2);
        x.clear(3);
        check.due("size(3) after clear(3)", 0, x.size(3));
        check.due("amount(3, 1, 63)", 0, x.amount(3, 1, 63));
        check.yes("set(3, 2, 2, 2)", x.set(3, 2, 2, 2));
        check.bag("set(3, 2, 2, 2)", x, 3, "2/2:2");
        x.clear(3);
        Check.fill(x, 3, 4, 65, 6);
        check.bag("64 sets and one more", x, 3, Check.filled(4, 64, 6));
    }

    private static void noSuchBag() {
        check.sentence("BAG");
        CoinBag x = Check.small();
        String before = Check.all(x);
        for (int bag : Check.NO_BAGS) {
            check.throwsIndex("clear(" + bag + ")", () -> x.clear(bag));
        }
        check.same("wrong clears", x, before);
    }
}
