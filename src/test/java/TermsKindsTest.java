/** What the document's Terms say of BAGS, KINDS, POLICIES, NAMES and AMOUNTS, a method for each sentence. */
public final class TermsKindsTest {
    private static final long MIN = Check.MIN;
    private static final long MAX = Check.MAX;
    private static final Check check = new Check("Terms: BAGS and KINDS");

    public static void main(String[] args) {
        eightBags();
        bagsAreApart();
        emptyAtFirst();
        leastAndGreatestPolicy();
        anyLongIsAName();
        policyAndNameMakeTheKind();
        atMost64Kinds();
        atMost64KindsInEachBag();
        amountsToTheEdges();
        noAmountIsZero();
        allOthersAreZero();
        byPolicyFirst();
        thenByNameWithoutASign();
        inWhateverOrderTheyCome();
        oneFormAlone();
        check.end();
    }

    private static void eightBags() {
        check.sentence("There are BAGS 0 .. 7");
        for (int bag : new int[] {0, 7}) {
            CoinBag x = new CoinBag();
            check.yes("set in BAG " + bag, x.set(bag, 1, 1, 2));
            check.yes("put in BAG " + bag, x.put(bag, 1, 2, -3));
            check.due("amount in BAG " + bag, 2, x.amount(bag, 1, 1));
            check.due("size of BAG " + bag, 2, x.size(bag));
            check.due("at in BAG " + bag, -3, x.at(bag, 1, 2));
            check.due("look at BAG " + bag, 1, x.look(bag, 1));
            check.yes("sum of BAG " + bag, x.sum(bag, bag, bag));
            check.yes("less of BAG " + bag, x.less(bag, 7 - bag, bag));
            check.yes("times of BAG " + bag, x.times(bag, 2, bag));
            check.bag("sum, less and times", x, bag, "1/1:8 1/2:-12");
            check.due("compare of BAG " + bag, 3, x.compare(bag, 7 - bag));
            check.due("into of BAG " + bag, 1, x.into(bag, bag));
            check.yes("least of BAG " + bag, x.least(bag, bag, bag));
            check.throwsNothing("only of BAG " + bag, () -> x.only(bag, 1, true, bag));
            check.yes("part of BAG " + bag, x.part(bag, -1, bag));
            check.bag("least, only and part", x, bag, "1/2:12");
            check.throwsNothing("clear of BAG " + bag, () -> x.clear(bag));
            check.bag("clear", x, bag, "");
        }
    }

    private static void bagsAreApart() {
        check.sentence("There are BAGS 0 .. 7: each for itself");
        CoinBag x = new CoinBag();
        for (int bag = 0; bag < 8; bag++) {
            check.yes("set in BAG " + bag, x.set(bag, 1, 1, bag + 1));
        }
        check.due("all BAGS", "0[1/1:1]1[1/1:2]2[1/1:3]3[1/1:4]4[1/1:5]5[1/1:6]6[1/1:7]7[1/1:8]", Check.all(x));
    }

    private static void emptyAtFirst() {
        check.sentence("empty at first");
        CoinBag x = new CoinBag();
        check.due("all BAGS", "0[]1[]2[]3[]4[]5[]6[]7[]", Check.all(x));
    }

    private static void leastAndGreatestPolicy() {
        check.sentence("a POLICY 0 .. 65535");
        for (int policy : new int[] {0, 65535}) {
            CoinBag x = new CoinBag();
            check.yes("set of POLICY " + policy, x.set(0, policy, 3, 4));
            check.yes("put of POLICY " + policy, x.put(0, policy, 3, 5));
            check.due("amount of POLICY " + policy, 9, x.amount(0, policy, 3));
            check.due("at of POLICY " + policy, policy, x.at(0, 0, 0));
            x.only(0, policy, true, 1);
            check.bag("only this POLICY", x, 1, policy + "/3:9");
            x.only(0, policy, false, 1);
            check.bag("all others", x, 1, "");
        }
    }

    private static void anyLongIsAName() {
        check.sentence("and a NAME, a long");
        for (long name : new long[] {MIN, MIN + 1, -1, 0, 1, 1L << 32, MAX}) {
            CoinBag x = new CoinBag();
            check.yes("set of NAME " + name, x.set(0, 1, name, 4));
            check.yes("put of NAME " + name, x.put(0, 1, name, 5));
            check.due("amount of NAME " + name, 9, x.amount(0, 1, name));
            check.due("size with NAME " + name, 1, x.size(0));
            check.due("at of NAME " + name, name, x.at(0, 0, 1));
            check.due("amount of the NAME before", 0, x.amount(0, 1, name - 1));
            check.due("amount of the NAME behind", 0, x.amount(0, 1, name + 1));
            check.due("amount of the NAME 2 to the 32nd further", 0, x.amount(0, 1, name + (1L << 32)));
        }
    }

    private static void policyAndNameMakeTheKind() {
        check.sentence("A KIND of coin is a POLICY .. and a NAME");
        CoinBag x = new CoinBag();
        x.set(0, 1, 1, 11);
        x.set(0, 1, 2, 12);
        x.set(0, 2, 1, 21);
        x.set(0, 2, 2, 22);
        check.bag("two NAMES of two POLICIES", x, 0, "1/1:11 1/2:12 2/1:21 2/2:22");
        x.set(0, 1, 2, 0);
        check.bag("set(0, 1, 2, 0)", x, 0, "1/1:11 2/1:21 2/2:22");
    }

    private static void atMost64Kinds() {
        check.sentence("for some KINDS, at most 64");
        CoinBag onePolicy = new CoinBag();
        CoinBag manyPolicies = new CoinBag();
        for (int i = 0; i < 64; i++) {
            check.yes("set of NAME " + i + " of one POLICY", onePolicy.set(0, 9, i, 1));
            check.yes("set of POLICY " + i, manyPolicies.set(0, i, 9, 1));
        }
        check.no("set of NAME 64 of one POLICY", onePolicy.set(0, 9, 64, 1));
        check.no("set of POLICY 64", manyPolicies.set(0, 64, 9, 1));
        check.bag("64 NAMES of one POLICY", onePolicy, 0, Check.filled(9, 64, 1));
        check.due("size with 64 POLICIES", 64, manyPolicies.size(0));
    }

    private static void atMost64KindsInEachBag() {
        check.sentence("A BAG has .. at most 64: in each BAG");
        CoinBag x = new CoinBag();
        Check.fill(x, 0, 1, 64, 1);
        for (int bag = 1; bag < 8; bag++) {
            check.yes("times(0, 1, " + bag + ")", x.times(0, 1, bag));
            check.due("size(" + bag + ")", 64, x.size(bag));
            check.no("set of a 65th KIND in BAG " + bag, x.set(bag, 2, 0, 1));
            check.due("compare(0, " + bag + ")", 0, x.compare(0, bag));
        }
    }

    private static void amountsToTheEdges() {
        check.sentence("an AMOUNT, a long");
        CoinBag x = new CoinBag();
        long[] amounts = {MIN, MIN + 1, -(1L << 32), -1, 1, 1L << 32, MAX - 1, MAX};
        for (int i = 0; i < amounts.length; i++) {
            check.yes("set of " + amounts[i], x.set(0, 1, i, amounts[i]));
            check.yes("put of " + amounts[i], x.put(1, 1, i, amounts[i]));
        }
        for (int i = 0; i < amounts.length; i++) {
            check.due("amount that was set", amounts[i], x.amount(0, 1, i));
            check.due("amount that was put", amounts[i], x.amount(1, 1, i));
            check.due("at of it", amounts[i], x.at(0, i, 2));
        }
    }

    private static void noAmountIsZero() {
        check.sentence("a long other than 0");
        CoinBag x = new CoinBag();
        x.set(0, 1, 1, 5);
        x.set(0, 1, 2, -5);
        check.yes("set to 0", x.set(0, 1, 3, 0));
        check.yes("put of 0", x.put(0, 1, 4, 0));
        check.bag("set and put of 0", x, 0, "1/1:5 1/2:-5");
        x.set(1, 1, 1, -5);
        check.yes("sum to 0 of one KIND", x.sum(0, 1, 2));
        check.bag("sum to 0 of one KIND", x, 2, "1/2:-5");
        check.yes("less to 0 of all KINDS", x.less(0, 0, 2));
        check.bag("less to 0 of all KINDS", x, 2, "");
        check.yes("times 0", x.times(0, 0, 2));
        check.bag("times 0", x, 2, "");
        check.yes("least of 5 and none", x.least(0, 7, 2));
        check.bag("least of 5 and none", x, 2, "1/2:-5");
        check.yes("put to 0", x.put(0, 1, 1, -5));
        check.bag("put to 0", x, 0, "1/2:-5");
        check.yes("set to 0 of the last KIND", x.set(0, 1, 2, 0));
        check.bag("set to 0 of the last KIND", x, 0, "");
    }

    private static void allOthersAreZero() {
        check.sentence("of all others it has 0");
        CoinBag x = Check.small();
        check.due("amount(0, 0, 0), before all KINDS", 0, x.amount(0, 0, 0));
        check.due("amount(0, 5, 3), between two", 0, x.amount(0, 5, 3));
        check.due("amount(0, 65535, -1), behind all", 0, x.amount(0, 65535, -1));
        check.due("amount(7, 5, 1), in an empty BAG", 0, x.amount(7, 5, 1));
        x.set(0, 5, 1, 0);
        check.due("amount(0, 5, 1), gone by set", 0, x.amount(0, 5, 1));
        x.clear(0);
        check.due("amount(0, 9, 0), gone by clear", 0, x.amount(0, 9, 0));
    }

    private static void byPolicyFirst() {
        check.sentence("KINDS lie by POLICY");
        CoinBag x = new CoinBag();
        int[] policies = {65535, 32768, 32767, 256, 255, 1, 0};
        for (int policy : policies) {
            x.set(0, policy, policy == 0 ? -1 : 65535 - policy, 1);
        }
        check.bag("seven sets", x, 0, "0/18446744073709551615:1 1/65534:1 255/65280:1 256/65279:1"
                + " 32767/32768:1 32768/32767:1 65535/0:1");
    }

    private static void thenByNameWithoutASign() {
        check.sentence("then by NAME as a number without a sign");
        CoinBag x = new CoinBag();
        long[] names = {-1, MIN + 1, MIN, MAX, 1L << 32, (1L << 32) - 1, 1L << 31, 1, 0};
        for (long name : names) {
            x.set(0, 1, name, 1);
        }
        for (int i = 0; i < names.length; i++) {
            check.due("at(0, " + i + ", 1)", names[names.length - 1 - i], x.at(0, i, 1));
        }
    }

    private static void inWhateverOrderTheyCome() {
        check.sentence("KINDS lie by POLICY, then by NAME: in whatever order they came");
        for (int step : new int[] {1, 5, 27, 63}) {
            CoinBag x = new CoinBag();
            for (int i = 0; i < 64; i++) {
                x.set(0, 3, i * step % 64, 2);
            }
            check.bag("64 sets, each " + step + " further", x, 0, Check.filled(3, 64, 2));
        }
    }

    private static void oneFormAlone() {
        check.sentence("kept in one form alone");
        CoinBag x = Check.small();
        x.set(3, 9, 0, 6);
        x.put(3, 9, 0, 1);
        x.set(3, 5, 7, 1);
        x.put(3, 5, 2, -4);
        x.put(3, 5, 7, -1);
        x.sum(2, 3, 3);
        x.put(3, 5, 1, 10);
        x.less(3, 2, 3);
        check.bag("another way to BAG 0", x, 3, Check.bag(x, 0));
        check.due("compare(0, 3)", 0, x.compare(0, 3));
    }
}
