public final class Promise03PutTest {
    private static final long MIN = Check.MIN;
    private static final long MAX = Check.MAX;
    private static final Check check = new Check("Promise 3: put");

    public static void main(String[] args) {
        soMuchMore();
        toZeroAndOfZero();
        tooLarge();
        tooSmall();
        justALong();
        the64thAndThe65thKind();
        aFullBagChangesStill();
        noSuchBag();
        noSuchPolicy();
        check.end();
    }

    private static void soMuchMore() {
        check.sentence("So much more of a KIND: true");
        CoinBag x = Check.small();
        check.yes("put(7, 1, 1, 4) in an empty BAG", x.put(7, 1, 1, 4));
        check.bag("put(7, 1, 1, 4)", x, 7, "1/1:4");
        check.yes("put(0, 5, 1, 5)", x.put(0, 5, 1, 5));
        check.yes("put(0, 5, 1, -20)", x.put(0, 5, 1, -20));
        check.yes("put(0, 6, -1, 2)", x.put(0, 6, -1, 2));
        check.yes("put(0, 6, 1, 3)", x.put(0, 6, 1, 3));
        check.bag("four puts", x, 0, "5/1:-5 5/2:-4 6/1:3 6/18446744073709551615:2 9/0:7");
    }

    private static void toZeroAndOfZero() {
        check.sentence("So much more of a KIND: to 0, and 0 more");
        CoinBag x = Check.small();
        check.yes("put(0, 5, 2, 4)", x.put(0, 5, 2, 4));
        check.bag("a put to 0", x, 0, "5/1:10 9/0:7");
        check.yes("put(0, 8, 8, 0)", x.put(0, 8, 8, 0));
        check.yes("put(0, 9, 0, 0)", x.put(0, 9, 0, 0));
        check.bag("two puts of 0", x, 0, "5/1:10 9/0:7");
        check.yes("put(7, 8, 8, 0) in an empty BAG", x.put(7, 8, 8, 0));
        check.due("size(7)", 0, x.size(7));
        x.set(2, 1, 1, MAX);
        check.yes("put of 0 on MAX", x.put(2, 1, 1, 0));
        check.bag("put of 0 on MAX", x, 2, "1/1:9223372036854775807");
    }

    private static void tooLarge() {
        check.sentence("false if it can't be done: too large");
        CoinBag x = new CoinBag();
        x.set(0, 1, 0, MAX);
        x.set(0, 2, 0, 1);
        String before = Check.all(x);
        check.no("put 1 on MAX", x.put(0, 1, 0, 1));
        check.no("put MAX on MAX", x.put(0, 1, 0, MAX));
        check.no("put MAX on 1", x.put(0, 2, 0, MAX));
        check.same("refused puts", x, before);
    }

    private static void tooSmall() {
        check.sentence("false if it can't be done: too small");
        CoinBag x = new CoinBag();
        x.set(0, 1, 0, MIN);
        x.set(0, 2, 0, -1);
        String before = Check.all(x);
        check.no("put -1 on MIN", x.put(0, 1, 0, -1));
        check.no("put MIN on MIN", x.put(0, 1, 0, MIN));
        check.no("put MIN on -1", x.put(0, 2, 0, MIN));
        check.same("refused puts", x, before);
    }

    private static void justALong() {
        check.sentence("false if it can't be done: what is just a long can");
        CoinBag x = new CoinBag();
        x.set(0, 1, 0, MAX);
        x.set(0, 2, 0, MIN);
        check.yes("put MIN on MAX", x.put(0, 1, 0, MIN));
        check.yes("put MAX on MIN", x.put(0, 2, 0, MAX));
        check.bag("puts of the other sign", x, 0, "1/0:-1 2/0:-1");
        check.yes("put MIN + 1 on -1", x.put(0, 1, 0, MIN + 1));
        check.yes("put MIN on nothing", x.put(0, 3, 0, MIN));
        x.set(0, 4, 0, 1);
        check.yes("put MAX - 1 on 1", x.put(0, 4, 0, MAX - 1));
        check.yes("put MAX on nothing", x.put(0, 5, 0, MAX));
        check.bag("puts to MIN and to MAX", x, 0, "1/0:-9223372036854775808 2/0:-1 3/0:-9223372036854775808"
                + " 4/0:9223372036854775807 5/0:9223372036854775807");
    }

    private static void the64thAndThe65thKind() {
        check.sentence("false if it can't be done: a 65th KIND");
        CoinBag x = new CoinBag();
        for (int i = 0; i < 64; i++) {
            check.yes("put of KIND " + (i + 1), x.put(0, 7, i, 3));
        }
        check.no("put of a 65th KIND behind", x.put(0, 7, 64, 1));
        check.no("put of a 65th KIND in front", x.put(0, 6, 0, 1));
        check.no("put of MIN of a 65th KIND", x.put(0, 7, -1, MIN));
        check.bag("refused puts", x, 0, Check.filled(7, 64, 3));
    }

    private static void aFullBagChangesStill() {
        check.sentence("false if it can't be done: in a full BAG all that gives no new KIND can");
        CoinBag x = new CoinBag();
        Check.fill(x, 0, 7, 64, 3);
        check.yes("put of 0 of a 65th KIND", x.put(0, 7, 64, 0));
        check.due("size(0)", 64, x.size(0));
        check.yes("put of a KIND that is there", x.put(0, 7, 63, 1));
        check.due("amount(0, 7, 63)", 4, x.amount(0, 7, 63));
        check.yes("put to 0", x.put(0, 7, 0, -3));
        check.yes("put of a new KIND in its place", x.put(0, 6, 0, 1));
        check.no("put of one more", x.put(0, 6, 1, 1));
        check.due("size(0)", 64, x.size(0));
    }

    private static void noSuchBag() {
        check.sentence("BAG");
        CoinBag x = Check.small();
        String before = Check.all(x);
        for (int bag : Check.NO_BAGS) {
            check.throwsIndex("put(" + bag + ", 0, 0, 1)", () -> x.put(bag, 0, 0, 1));
            check.throwsIndex("put(" + bag + ", 65536, 0, 0)", () -> x.put(bag, 65536, 0, 0));
        }
        check.same("wrong puts", x, before);
    }

    private static void noSuchPolicy() {
        check.sentence("POLICY");
        CoinBag x = Check.small();
        String before = Check.all(x);
        for (int policy : Check.NO_POLICIES) {
            check.throwsArgument("put(0, " + policy + ", 0, 1)", () -> x.put(0, policy, 0, 1));
            check.throwsArgument("put(0, " + policy + ", 0, 0)", () -> x.put(0, policy, 0, 0));
        }
        check.same("wrong puts", x, before);
    }
}
