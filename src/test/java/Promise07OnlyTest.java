public final class Promise07OnlyTest {
    private static final Check check = new Check("Promise 7: only");
    private static final String FIVE = "0/4:1 5/1:10 5/2:-4 9/0:7 65535/18446744073709551615:2";

    public static void main(String[] args) {
        aPolicyAlone();
        allOthers();
        firstAndLastPolicy();
        policyThatIsNotThere();
        emptyBag();
        sameBag();
        fullBag();
        noSuchBag();
        noSuchPolicy();
        check.end();
    }

    private static CoinBag five() {
        CoinBag x = Check.small();
        x.set(0, 0, 4, 1);
        x.set(0, 65535, -1, 2);
        return x;
    }

    private static void aPolicyAlone() {
        check.sentence("the KINDS of a POLICY alone (is true)");
        CoinBag x = five();
        x.only(0, 5, true, 2);
        check.bag("only(0, 5, true, 2)", x, 2, "5/1:10 5/2:-4");
        check.bag("only(0, 5, true, 2)", x, 0, FIVE);
        x.set(2, 5, 1, 1);
        check.bag("only(0, 5, true, 2) and a set in 2", x, 0, FIVE);
    }

    private static void allOthers() {
        check.sentence("or all others");
        CoinBag x = five();
        x.only(0, 5, false, 2);
        check.bag("only(0, 5, false, 2)", x, 2, "0/4:1 9/0:7 65535/18446744073709551615:2");
        check.bag("only(0, 5, false, 2)", x, 0, FIVE);
    }

    private static void firstAndLastPolicy() {
        check.sentence("the KINDS of a POLICY alone .. or all others: POLICY 0 and 65535");
        CoinBag x = five();
        x.only(0, 0, true, 3);
        check.bag("only(0, 0, true, 3)", x, 3, "0/4:1");
        x.only(0, 0, false, 3);
        check.bag("only(0, 0, false, 3)", x, 3, "5/1:10 5/2:-4 9/0:7 65535/18446744073709551615:2");
        x.only(0, 65535, true, 3);
        check.bag("only(0, 65535, true, 3)", x, 3, "65535/18446744073709551615:2");
        x.only(0, 65535, false, 3);
        check.bag("only(0, 65535, false, 3)", x, 3, "0/4:1 5/1:10 5/2:-4 9/0:7");
    }

    private static void policyThatIsNotThere() {
        check.sentence("the KINDS of a POLICY alone .. or all others: none of that POLICY");
        CoinBag x = five();
        x.set(3, 1, 1, 1);
        x.only(0, 6, true, 3);
        check.bag("only(0, 6, true, 3)", x, 3, "");
        x.only(0, 6, false, 3);
        check.bag("only(0, 6, false, 3)", x, 3, FIVE);
    }

    private static void emptyBag() {
        check.sentence("BAG c has, of BAG a: an empty one");
        CoinBag x = Check.small();
        x.only(7, 5, true, 0);
        check.bag("only(7, 5, true, 0)", x, 0, "");
        x.only(7, 5, false, 1);
        check.bag("only(7, 5, false, 1)", x, 1, "");
    }

    private static void sameBag() {
        check.sentence("BAG c has, of BAG a: c may be a");
        CoinBag x = five();
        x.only(0, 0, false, 0);
        check.bag("only(0, 0, false, 0)", x, 0, "5/1:10 5/2:-4 9/0:7 65535/18446744073709551615:2");
        x.only(0, 5, true, 0);
        check.bag("only(0, 5, true, 0)", x, 0, "5/1:10 5/2:-4");
        x.only(0, 5, true, 0);
        check.bag("only(0, 5, true, 0) again", x, 0, "5/1:10 5/2:-4");
        x.only(0, 5, false, 0);
        check.bag("only(0, 5, false, 0)", x, 0, "");
    }

    private static void fullBag() {
        check.sentence("BAG c has, of BAG a: a full one");
        CoinBag x = new CoinBag();
        Check.fill(x, 0, 1, 64, 2);
        x.only(0, 1, true, 1);
        check.bag("only(0, 1, true, 1)", x, 1, Check.filled(1, 64, 2));
        x.only(0, 2, false, 2);
        check.due("compare(0, 2)", 0, x.compare(0, 2));
        check.due("size(2)", 64, x.size(2));
        x.only(0, 1, false, 2);
        check.due("size(2) after only(0, 1, false, 2)", 0, x.size(2));
        check.due("size(0)", 64, x.size(0));
    }

    private static void noSuchBag() {
        check.sentence("BAG");
        CoinBag x = Check.small();
        String before = Check.all(x);
        for (int bag : Check.NO_BAGS) {
            check.throwsIndex("only(" + bag + ", 5, true, 0)", () -> x.only(bag, 5, true, 0));
            check.throwsIndex("only(0, 5, true, " + bag + ")", () -> x.only(0, 5, true, bag));
            check.throwsIndex("only(" + bag + ", -1, false, 0)", () -> x.only(bag, -1, false, 0));
            check.throwsIndex("only(0, -1, false, " + bag + ")", () -> x.only(0, -1, false, bag));
        }
        check.same("wrong onlys", x, before);
    }

    private static void noSuchPolicy() {
        check.sentence("POLICY");
        CoinBag x = Check.small();
        String before = Check.all(x);
        for (int policy : Check.NO_POLICIES) {
            check.throwsArgument("only(0, " + policy + ", true, 1)", () -> x.only(0, policy, true, 1));
            check.throwsArgument("only(0, " + policy + ", false, 0)", () -> x.only(0, policy, false, 0));
            check.throwsArgument("only(7, " + policy + ", false, 0)", () -> x.only(7, policy, false, 0));
        }
        check.same("wrong onlys", x, before);
    }
}
