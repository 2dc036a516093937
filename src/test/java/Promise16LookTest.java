public final class Promise16LookTest {
    private static final Check check = new Check("Promise 16: look");

    public static void main(String[] args) {
        emptyBag();
        policies();
        belowZero();
        greatest();
        otherWhich();
        wrongInputs();
        check.end();
    }

    private static void emptyBag() {
        CoinBag x = new CoinBag();
        check.due("look(0, 0)", 0, x.look(0, 0));
        check.due("look(0, 1)", 0, x.look(0, 1));
        check.due("look(0, 2)", CoinBag.NONE, x.look(0, 2));
    }

    private static void policies() {
        CoinBag x = Check.small();
        check.due("look(0, 0)", 2, x.look(0, 0));
        check.due("look(2, 0)", 1, x.look(2, 0));
        x.set(0, 0, 0, 1);
        x.set(0, 0, -1, 1);
        x.set(0, 65535, 0, 1);
        check.due("look(0, 0) after three sets", 4, x.look(0, 0));
        x.set(0, 9, 0, 0);
        check.due("look(0, 0) after an AMOUNT of 0", 3, x.look(0, 0));
        for (int policy = 0; policy < 64; policy++) {
            x.set(7, policy, 0, 1);
        }
        check.due("look(7, 0)", 64, x.look(7, 0));
    }

    private static void belowZero() {
        CoinBag x = Check.small();
        check.due("look(0, 1)", 1, x.look(0, 1));
        check.due("look(1, 1)", 0, x.look(1, 1));
        x.set(0, 9, 0, Long.MIN_VALUE);
        check.due("look(0, 1) with MIN", 2, x.look(0, 1));
        Check.fill(x, 7, 3, 64, -1);
        check.due("look(7, 1)", 64, x.look(7, 1));
    }

    private static void greatest() {
        CoinBag x = new CoinBag();
        x.set(0, 5, 0, Long.MIN_VALUE);
        check.due("look(0, 2) of MIN alone", 0, x.look(0, 2));
        x.set(0, 5, 1, -7);
        check.due("look(0, 2) of MIN and -7", 1, x.look(0, 2));
        x.set(0, 5, 2, -7);
        check.due("look(0, 2): the first of two", 1, x.look(0, 2));
        x.set(0, 5, -1, 4);
        check.due("look(0, 2): the last KIND", 3, x.look(0, 2));
        x.set(0, 4, -1, 4);
        check.due("look(0, 2): a KIND before it", 0, x.look(0, 2));
        x.set(0, 5, 1, Long.MAX_VALUE);
        check.due("look(0, 2): MAX", 2, x.look(0, 2));
        Check.fill(x, 7, 3, 64, 5);
        x.set(7, 3, 63, 6);
        check.due("look(7, 2)", 63, x.look(7, 2));
    }

    private static void otherWhich() {
        CoinBag x = Check.small();
        String before = Check.all(x);
        for (int which : new int[] {-1, 3, Integer.MIN_VALUE, Integer.MAX_VALUE}) {
            check.due("look(0, " + which + ")", CoinBag.NONE, x.look(0, which));
            check.due("look(7, " + which + ")", CoinBag.NONE, x.look(7, which));
        }
        check.same("look", x, before);
    }

    private static void wrongInputs() {
        CoinBag x = Check.small();
        for (int bag : Check.NO_BAGS) {
            check.throwsIndex("look(" + bag + ", 0)", () -> x.look(bag, 0));
            check.throwsIndex("look(" + bag + ", 3)", () -> x.look(bag, 3));
        }
    }
}
