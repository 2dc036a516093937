public final class Promise03PutTest {
    private static final Check check = new Check("Promise 3: put");

    public static void main(String[] args) {
        adds();
        refusesWhatIsNoLong();
        refusesKind65();
        wrongInputs();
        check.end();
    }

    private static void adds() {
        CoinBag x = Check.small();
        check.yes("put(0, 5, 1, 5)", x.put(0, 5, 1, 5));
        check.yes("put(0, 5, 1, -20)", x.put(0, 5, 1, -20));
        check.yes("put(0, 6, -1, 2)", x.put(0, 6, -1, 2));
        check.yes("put(0, 6, 1, 3)", x.put(0, 6, 1, 3));
        check.bag("four puts", x, 0, "5/1:-5 5/2:-4 6/1:3 6/18446744073709551615:2 9/0:7");
        check.yes("put(0, 5, 2, 4)", x.put(0, 5, 2, 4));
        check.yes("put(0, 8, 8, 0)", x.put(0, 8, 8, 0));
        check.yes("put(0, 9, 0, 0)", x.put(0, 9, 0, 0));
        check.bag("a put to 0 and two of 0", x, 0, "5/1:-5 6/1:3 6/18446744073709551615:2 9/0:7");
    }

    private static void refusesWhatIsNoLong() {
        CoinBag x = new CoinBag();
        x.set(0, 1, 0, Long.MAX_VALUE);
        x.set(0, 2, 0, Long.MIN_VALUE);
        String before = Check.all(x);
        check.no("put 1 on MAX", x.put(0, 1, 0, 1));
        check.no("put MAX on MAX", x.put(0, 1, 0, Long.MAX_VALUE));
        check.no("put -1 on MIN", x.put(0, 2, 0, -1));
        check.no("put MIN on MIN", x.put(0, 2, 0, Long.MIN_VALUE));
        check.same("refused puts", x, before);
        check.yes("put MIN on MAX", x.put(0, 1, 0, Long.MIN_VALUE));
        check.yes("put MAX on MIN", x.put(0, 2, 0, Long.MAX_VALUE));
        check.bag("puts of the other sign", x, 0, "1/0:-1 2/0:-1");
        check.yes("put MIN + 1 on -1", x.put(0, 1, 0, Long.MIN_VALUE + 1));
        check.yes("put MIN on nothing", x.put(0, 3, 0, Long.MIN_VALUE));
        x.set(0, 4, 0, 1);
        check.yes("put MAX - 1 on 1", x.put(0, 4, 0, Long.MAX_VALUE - 1));
        check.bag("puts to MIN and to MAX", x, 0, "1/0:-9223372036854775808 2/0:-1"
                + " 3/0:-9223372036854775808 4/0:9223372036854775807");
    }

    private static void refusesKind65() {
        CoinBag x = new CoinBag();
        Check.fill(x, 0, 7, 64, 3);
        x.times(0, 1, 1);
        check.no("put of a 65th KIND", x.put(0, 7, 64, 1));
        check.no("put of a 65th KIND in front", x.put(0, 6, 0, 1));
        check.yes("put of 0 of a 65th KIND", x.put(0, 7, 64, 0));
        check.due("compare with the copy", 0, x.compare(0, 1));
        check.yes("put of a KIND that is there", x.put(0, 7, 63, 1));
        check.due("amount(0, 7, 63)", 4, x.amount(0, 7, 63));
        check.yes("put to 0", x.put(0, 7, 0, -3));
        check.yes("put of a new KIND in its place", x.put(0, 6, 0, 1));
        check.due("size(0)", 64, x.size(0));
    }

    private static void wrongInputs() {
        CoinBag x = Check.small();
        String before = Check.all(x);
        for (int bag : Check.NO_BAGS) {
            check.throwsIndex("put(" + bag + ", 0, 0, 1)", () -> x.put(bag, 0, 0, 1));
            check.throwsIndex("put(" + bag + ", 65536, 0, 0)", () -> x.put(bag, 65536, 0, 0));
        }
        for (int policy : Check.NO_POLICIES) {
            check.throwsArgument("put(0, " + policy + ", 0, 1)", () -> x.put(0, policy, 0, 1));
            check.throwsArgument("put(0, " + policy + ", 0, 0)", () -> x.put(0, policy, 0, 0));
        }
        check.same("wrong puts", x, before);
    }
}
