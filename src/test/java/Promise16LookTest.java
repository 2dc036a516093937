public final class Promise16LookTest {
    private static final Check check = new Check("Promise 16: look");

    public static void main(String[] args) {
        policies();
        belowZero();
        placeOfTheGreatest();
        theFirstSuchOne();
        emptyBag();
        fullBags();
        anyOtherWhich();
        noSuchBag();
        check.end();
    }

    private static void policies() {
        check.sentence("which 0: POLICIES");
        CoinBag x = Check.small();
        check.due("look(0, 0)", 2, x.look(0, 0));
        check.due("look(2, 0)", 1, x.look(2, 0));
        x.set(0, 0, 0, 1);
        x.set(0, 0, -1, 1);
        x.set(0, 65535, 0, 1);
        check.due("look(0, 0) after three sets", 4, x.look(0, 0));
        x.set(0, 9, 0, 0);
        check.due("look(0, 0) after an AMOUNT of 0", 3, x.look(0, 0));
        x.set(0, 0, 0, 0);
        check.due("look(0, 0) after one of two KINDS of a POLICY has gone", 3, x.look(0, 0));
    }

    private static void belowZero() {
        check.sentence("1: KINDS whose AMOUNT is below 0");
        CoinBag x = Check.small();
        check.due("look(0, 1)", 1, x.look(0, 1));
        check.due("look(1, 1)", 0, x.look(1, 1));
        x.set(0, 9, 0, Check.MIN);
        check.due("look(0, 1) with MIN", 2, x.look(0, 1));
        x.set(0, 5, 1, -1);
        check.due("look(0, 1) with -1", 3, x.look(0, 1));
        x.set(0, 5, 1, Check.MAX);
        check.due("look(0, 1) with MAX", 2, x.look(0, 1));
    }

    private static void placeOfTheGreatest() {
        check.sentence("2: the place of the KIND with the greatest AMOUNT");
        CoinBag x = new CoinBag();
        x.set(0, 5, 0, Check.MIN);
        check.due("look(0, 2) of MIN alone", 0, x.look(0, 2));
        x.set(0, 5, 1, -7);
        check.due("look(0, 2) of MIN and -7", 1, x.look(0, 2));
        x.set(0, 5, -1, 4);
        check.due("look(0, 2): the last KIND", 2, x.look(0, 2));
        x.set(0, 4, -1, 5);
        check.due("look(0, 2): the first KIND", 0, x.look(0, 2));
        x.set(0, 5, 1, Check.MAX);
        check.due("look(0, 2): MAX", 2, x.look(0, 2));
    }

    private static void theFirstSuchOne() {
        check.sentence("the first such one");
        CoinBag x = new CoinBag();
        x.set(0, 5, 0, -9);
        x.set(0, 5, 2, -7);
        x.set(0, 5, 1, -7);
        check.due("look(0, 2): the first of two", 1, x.look(0, 2));
        x.set(0, 5, -1, 4);
        x.set(0, 4, -1, 4);
        check.due("look(0, 2): the first KIND as the last", 0, x.look(0, 2));
        x.times(0, 0, 0);
        Check.fill(x, 0, 3, 5, Check.MIN);
        check.due("look(0, 2): five times MIN", 0, x.look(0, 2));
    }

    private static void emptyBag() {
        check.sentence("NONE if it is empty");
        CoinBag x = Check.small();
        check.due("look(7, 2)", CoinBag.NONE, x.look(7, 2));
        check.due("look(7, 0)", 0, x.look(7, 0));
        check.due("look(7, 1)", 0, x.look(7, 1));
        x.clear(0);
        check.due("look(0, 2) after clear(0)", CoinBag.NONE, x.look(0, 2));
        x.set(2, 1, 1, 0);
        check.due("look(2, 2) after its only KIND has gone", CoinBag.NONE, x.look(2, 2));
    }

    private static void fullBags() {
        check.sentence("Of a BAG: a full one");
        CoinBag x = new CoinBag();
        for (int policy = 0; policy < 64; policy++) {
            x.set(7, policy, 0, -1);
        }
        check.due("look(7, 0) of 64 POLICIES", 64, x.look(7, 0));
        check.due("look(7, 1)", 64, x.look(7, 1));
        check.due("look(7, 2)", 0, x.look(7, 2));
        Check.fill(x, 6, 3, 64, 5);
        check.due("look(6, 0) of one POLICY", 1, x.look(6, 0));
        check.due("look(6, 1)", 0, x.look(6, 1));
        x.set(6, 3, 63, 6);
        check.due("look(6, 2)", 63, x.look(6, 2));
    }

    private static void anyOtherWhich() {
        check.sentence("NONE for any other which");
        CoinBag x = Check.small();
        String before = Check.all(x);
        for (int which : new int[] {-1, 3, 256, Integer.MIN_VALUE, Integer.MAX_VALUE}) {
            check.due("look(0, " + which + ")", CoinBag.NONE, x.look(0, which));
            check.due("look(7, " + which + ")", CoinBag.NONE, x.look(7, which));
        }
        check.same("look", x, before);
    }

    private static void noSuchBag() {
        check.sentence("BAG");
        CoinBag x = Check.small();
        for (int bag : Check.NO_BAGS) {
            for (int which = -1; which <= 3; which++) {
                int w = which;
                check.throwsIndex("look(" + bag + ", " + which + ")", () -> x.look(bag, w));
            }
        }
    }
}
