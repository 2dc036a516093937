public final class Promise07OnlyTest {
    private static final Check check = new Check("Promise 7: only");

    public static void main(String[] args) {
        picks();
        sameBag();
        fullBag();
        wrongInputs();
        check.end();
    }

    private static void picks() {
        CoinBag x = Check.small();
        x.set(0, 0, 4, 1);
        x.set(0, 65535, -1, 2);
        x.only(0, 5, true, 2);
        check.bag("only(0, 5, true, 2)", x, 2, "5/1:10 5/2:-4");
        x.only(0, 5, false, 2);
        check.bag("only(0, 5, false, 2)", x, 2, "0/4:1 9/0:7 65535/18446744073709551615:2");
        x.only(0, 0, true, 3);
        check.bag("only(0, 0, true, 3)", x, 3, "0/4:1");
        x.only(0, 65535, true, 3);
        check.bag("only(0, 65535, true, 3)", x, 3, "65535/18446744073709551615:2");
        x.only(0, 6, true, 3);
        check.bag("only(0, 6, true, 3)", x, 3, "");
        x.only(0, 6, false, 3);
        check.due("compare(0, 3) after only(0, 6, false, 3)", 0, x.compare(0, 3));
        x.only(7, 5, false, 3);
        check.bag("only(7, 5, false, 3)", x, 3, "");
        check.bag("all that", x, 0, "0/4:1 5/1:10 5/2:-4 9/0:7 65535/18446744073709551615:2");
    }

    private static void sameBag() {
        CoinBag x = Check.small();
        x.only(0, 5, true, 0);
        check.bag("only(0, 5, true, 0)", x, 0, "5/1:10 5/2:-4");
        x.only(0, 5, false, 0);
        check.bag("only(0, 5, false, 0)", x, 0, "");
    }

    private static void fullBag() {
        CoinBag x = new CoinBag();
        Check.fill(x, 0, 1, 64, 2);
        x.only(0, 1, true, 1);
        check.due("compare(0, 1)", 0, x.compare(0, 1));
        check.due("size(1)", 64, x.size(1));
        x.only(0, 2, false, 2);
        check.due("compare(0, 2)", 0, x.compare(0, 2));
    }

    private static void wrongInputs() {
        CoinBag x = Check.small();
        String before = Check.all(x);
        for (int bag : Check.NO_BAGS) {
            check.throwsIndex("only(" + bag + ", 5, true, 0)", () -> x.only(bag, 5, true, 0));
            check.throwsIndex("only(0, 5, true, " + bag + ")", () -> x.only(0, 5, true, bag));
            check.throwsIndex("only(" + bag + ", -1, false, 0)", () -> x.only(bag, -1, false, 0));
            check.throwsIndex("only(0, -1, false, " + bag + ")", () -> x.only(0, -1, false, bag));
        }
        for (int policy : Check.NO_POLICIES) {
            check.throwsArgument("only(0, " + policy + ", true, 1)", () -> x.only(0, policy, true, 1));
            check.throwsArgument("only(0, " + policy + ", false, 0)", () -> x.only(0, policy, false, 0));
        }
        check.same("wrong onlys", x, before);
    }
}
