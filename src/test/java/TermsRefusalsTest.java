import java.util.LinkedHashMap;
import java.util.Map;
import java.util.function.Predicate;

/** What the document's Terms say of what can't be done and of what a refused call leaves as it was. */
public final class TermsRefusalsTest {
    private static final long MIN = Check.MIN;
    private static final long MAX = Check.MAX;
    private static final Check check = new Check("Terms: what can't be done");

    public static void main(String[] args) {
        moreThan64Kinds();
        moreThan64KindsByFar();
        just64Kinds();
        zerosAreNoKinds();
        amountTooLarge();
        amountTooSmall();
        amountJustALong();
        falseChangesNothing();
        falseChangesNothingOfFullBags();
        noneChangesNothing();
        throwsChangesNothing();
        noneIsMinusOne();
        check.end();
    }

    /** BAG 0 has 64 KINDS of POLICY 5 with -2, BAG 1 one other KIND with -3, BAG 7 one KIND. */
    private static CoinBag full(int policy, long name) {
        CoinBag x = new CoinBag();
        for (int i = 0; i < 64; i++) {
            x.set(0, 5, 2 * i + 1, -2);
        }
        x.set(1, policy, name, -3);
        x.set(7, 8, 8, 8);
        return x;
    }

    private static void moreThan64Kinds() {
        check.sentence("An operation that would give more than 64 KINDS .. can't be done");
        long[][] kinds = {{4, 9}, {5, 0}, {5, 64}, {5, -1}, {6, 0}};
        for (long[] kind : kinds) {
            int policy = (int) kind[0];
            long name = kind[1];
            String with = " with " + policy + "/" + name + " as the 65th KIND";
            CoinBag x = full(policy, name);
            check.no("set" + with, x.set(0, policy, name, 1));
            check.no("put" + with, x.put(0, policy, name, 1));
            check.no("sum(0, 1, 7)" + with, x.sum(0, 1, 7));
            check.no("sum(1, 0, 0)" + with, x.sum(1, 0, 0));
            check.no("less(0, 1, 7)" + with, x.less(0, 1, 7));
            check.no("less(1, 0, 1)" + with, x.less(1, 0, 1));
            check.no("least(0, 1, 7)" + with, x.least(0, 1, 7));
            check.no("least(1, 0, 0)" + with, x.least(1, 0, 0));
            check.due("size(0)" + with, 64, x.size(0));
            check.bag("the refused calls" + with, x, 1, policy + "/" + Long.toUnsignedString(name) + ":-3");
            check.bag("the refused calls" + with, x, 7, "8/8:8");
        }
    }

    private static void moreThan64KindsByFar() {
        check.sentence("more than 64 KINDS: 64 and 64 others");
        CoinBag x = new CoinBag();
        Check.fill(x, 0, 1, 64, -1);
        Check.fill(x, 1, 2, 64, -1);
        check.no("sum(0, 1, 2)", x.sum(0, 1, 2));
        check.no("less(0, 1, 2)", x.less(0, 1, 2));
        check.no("least(0, 1, 2)", x.least(0, 1, 2));
        check.due("size(2)", 0, x.size(2));
        check.due("sizes of 0 and 1", 128, x.size(0) + x.size(1));
    }

    private static void just64Kinds() {
        check.sentence("more than 64 KINDS: 64 are not");
        CoinBag x = new CoinBag();
        Check.fill(x, 0, 1, 63, -1);
        x.set(1, 2, 0, -1);
        check.yes("sum to 64 KINDS", x.sum(0, 1, 2));
        check.due("size(2)", 64, x.size(2));
        check.yes("less to 64 KINDS", x.less(0, 1, 3));
        check.due("size(3)", 64, x.size(3));
        check.yes("least to 64 KINDS", x.least(0, 1, 4));
        check.due("size(4)", 64, x.size(4));
        check.yes("set of the 64th KIND", x.set(0, 1, 63, -1));
        check.bag("set of the 64th KIND", x, 0, Check.filled(1, 64, -1));
        check.yes("times of 64 KINDS", x.times(0, 1, 5));
        check.yes("part of 64 KINDS", x.part(0, -1, 5));
        check.bag("part of 64 KINDS", x, 5, Check.filled(1, 64, 1));
    }

    private static void zerosAreNoKinds() {
        check.sentence("more than 64 KINDS: those with 0 are none");
        CoinBag x = full(6, 0);
        check.yes("set of a 65th KIND to 0", x.set(0, 6, 0, 0));
        check.yes("put of 0 of a 65th KIND", x.put(0, 6, 0, 0));
        check.due("size(0)", 64, x.size(0));
        x.set(1, 5, 1, 2);
        check.yes("sum of 65 KINDS, one to 0", x.sum(0, 1, 2));
        check.due("size(2)", 64, x.size(2));
        x.set(1, 5, 1, -2);
        check.yes("less of 65 KINDS, one to 0", x.less(0, 1, 3));
        check.due("size(3)", 64, x.size(3));
        x.set(1, 6, 0, 3);
        check.yes("least of 65 KINDS, one to 0", x.least(0, 1, 4));
        check.due("compare(0, 4)", 0, x.compare(0, 4));
    }

    /** One KIND in BAG 0 and one in BAG 1, the same, and another KIND before and behind it in BAG 0. */
    private static CoinBag pair(long a, long b) {
        CoinBag x = new CoinBag();
        x.set(0, 1, 0, 1);
        x.set(0, 2, 0, a);
        x.set(0, 3, 0, 1);
        x.set(1, 2, 0, b);
        x.set(7, 8, 8, 8);
        return x;
    }

    private static void refused(String call, long a, long b, Predicate<CoinBag> run) {
        CoinBag x = pair(a, b);
        String before = Check.all(x);
        String told = call + " of " + a + " and " + b;
        check.no(told, run.test(x));
        check.same(told, x, before);
    }

    private static void done(String call, long a, long b, Predicate<CoinBag> run, long want) {
        CoinBag x = pair(a, b);
        String told = call + " of " + a + " and " + b;
        check.yes(told, run.test(x));
        check.due("amount after " + told, want, x.amount(7, 2, 0));
    }

    private static void amountTooLarge() {
        check.sentence("or an AMOUNT that is no long, can't be done: too large");
        refused("put", MAX, 1, x -> x.put(0, 2, 0, 1));
        refused("put", 1, 1, x -> x.put(0, 2, 0, MAX));
        refused("put", MAX, 1, x -> x.put(0, 2, 0, MAX));
        refused("sum", MAX, 1, x -> x.sum(0, 1, 7));
        refused("sum", 1, MAX, x -> x.sum(0, 1, 0));
        refused("sum", MAX, MAX, x -> x.sum(0, 1, 1));
        refused("less", MAX, -1, x -> x.less(0, 1, 7));
        refused("less", 0, MIN, x -> x.less(0, 1, 0));
        refused("less", MAX, MIN, x -> x.less(0, 1, 1));
        refused("times", MAX, 0, x -> x.times(0, 2, 7));
        refused("times", MIN, 0, x -> x.times(0, -1, 0));
        refused("times", -2, 0, x -> x.times(0, MIN, 1));
        refused("times", 1L << 62, 0, x -> x.times(0, 4, 7));
        refused("part", MIN, 0, x -> x.part(0, -1, 7));
        refused("part", MIN, 0, x -> x.part(0, -1, 0));
    }

    private static void amountTooSmall() {
        check.sentence("or an AMOUNT that is no long, can't be done: too small");
        refused("put", MIN, 1, x -> x.put(0, 2, 0, -1));
        refused("put", -1, 1, x -> x.put(0, 2, 0, MIN));
        refused("put", MIN, 1, x -> x.put(0, 2, 0, MIN));
        refused("sum", MIN, -1, x -> x.sum(0, 1, 7));
        refused("sum", -1, MIN, x -> x.sum(0, 1, 0));
        refused("sum", MIN, MIN, x -> x.sum(0, 1, 1));
        refused("less", MIN, 1, x -> x.less(0, 1, 7));
        refused("less", -2, MAX, x -> x.less(0, 1, 0));
        refused("less", MIN, MAX, x -> x.less(0, 1, 1));
        refused("times", MIN, 0, x -> x.times(0, 2, 7));
        refused("times", MAX, 0, x -> x.times(0, -2, 0));
        refused("times", 2, 0, x -> x.times(0, MIN, 1));
        refused("times", -(1L << 62), 0, x -> x.times(0, 4, 7));
    }

    private static void amountJustALong() {
        check.sentence("an AMOUNT that is no long: the greatest and the least long are longs");
        done("sum", MAX - 1, 1, x -> x.sum(0, 1, 7), MAX);
        done("sum", MIN + 1, -1, x -> x.sum(0, 1, 7), MIN);
        done("sum", MAX, MIN, x -> x.sum(0, 1, 7), -1);
        done("less", MAX - 1, -1, x -> x.less(0, 1, 7), MAX);
        done("less", -1, MIN, x -> x.less(0, 1, 7), MAX);
        done("less", -1, MAX, x -> x.less(0, 1, 7), MIN);
        done("less", MIN + 1, 1, x -> x.less(0, 1, 7), MIN);
        done("less", 0, MAX, x -> x.less(0, 1, 7), MIN + 1);
        done("times", MIN + 1, 0, x -> x.times(0, -1, 7), MAX);
        done("times", MIN, 0, x -> x.times(0, 1, 7), MIN);
        done("times", 1, 0, x -> x.times(0, MIN, 7), MIN);
        done("part", MIN + 1, 0, x -> x.part(0, -1, 7), MAX);
        done("part", MAX, 0, x -> x.part(0, 1, 7), MAX);
        done("least", MIN, MAX, x -> x.least(0, 1, 7), MIN);
        done("put", MAX - 1, 0, x -> x.put(0, 2, 0, 1) && x.times(0, 1, 7), MAX);
        done("put", MIN + 1, 0, x -> x.put(0, 2, 0, -1) && x.times(0, 1, 7), MIN);
    }

    private static void falseChangesNothing() {
        check.sentence("What answers false .. changes nothing");
        // The KIND that can't be done is the last one, so that all others have been gone through.
        CoinBag x = Check.small();
        x.set(0, 65535, -1, MAX);
        x.set(1, 65535, -1, MIN);
        x.set(3, 8, 8, 8);
        String before = Check.all(x);
        check.no("put(0, 65535, -1, 1)", x.put(0, 65535, -1, 1));
        for (int c : new int[] {0, 1, 3, 7}) {
            check.no("sum(0, 0, " + c + ")", x.sum(0, 0, c));
            check.no("less(0, 1, " + c + ")", x.less(0, 1, c));
            check.no("times(0, 2, " + c + ")", x.times(0, 2, c));
            check.no("part(1, -1, " + c + ")", x.part(1, -1, c));
            check.no("part(0, 0, " + c + ")", x.part(0, 0, c));
        }
        check.same("calls that answered false", x, before);
    }

    private static void falseChangesNothingOfFullBags() {
        check.sentence("What answers false .. changes nothing: of a full BAG");
        Map<String, Predicate<CoinBag>> calls = new LinkedHashMap<>();
        calls.put("set(0, 1, 64, 5)", x -> x.set(0, 1, 64, 5));
        calls.put("set(0, 0, 0, 5)", x -> x.set(0, 0, 0, 5));
        calls.put("put(0, 1, 64, 5)", x -> x.put(0, 1, 64, 5));
        calls.put("put(0, 0, 0, 5)", x -> x.put(0, 0, 0, 5));
        calls.put("sum(0, 1, 0)", x -> x.sum(0, 1, 0));
        calls.put("less(0, 1, 0)", x -> x.less(0, 1, 0));
        calls.put("least(0, 1, 0)", x -> x.least(0, 1, 0));
        calls.put("times(0, MIN, 0)", x -> x.times(0, MIN, 0));
        calls.put("part(0, 2, 0)", x -> x.part(0, 2, 0));
        for (Map.Entry<String, Predicate<CoinBag>> call : calls.entrySet()) {
            CoinBag x = new CoinBag();
            Check.fill(x, 0, 1, 64, -7);
            x.set(1, 2, 2, -2);
            check.no(call.getKey(), call.getValue().test(x));
            check.bag(call.getKey(), x, 0, Check.filled(1, 64, -7));
            check.bag(call.getKey(), x, 1, "2/2:-2");
        }
    }

    private static void noneChangesNothing() {
        check.sentence("What answers .. NONE .. changes nothing");
        CoinBag x = Check.small();
        String before = Check.all(x);
        check.due("into(0, 1)", CoinBag.NONE, x.into(0, 1));
        check.due("into(0, 7)", CoinBag.NONE, x.into(0, 7));
        check.due("into(7, 7)", CoinBag.NONE, x.into(7, 7));
        check.due("look(7, 2)", CoinBag.NONE, x.look(7, 2));
        check.due("look(0, 3)", CoinBag.NONE, x.look(0, 3));
        check.due("look(0, -1)", CoinBag.NONE, x.look(0, -1));
        check.same("calls that answered NONE", x, before);
    }

    private static void throwsChangesNothing() {
        check.sentence("What .. throws changes nothing");
        CoinBag x = Check.small();
        String before = Check.all(x);
        check.throwsIndex("set(8, 5, 1, 1)", () -> x.set(8, 5, 1, 1));
        check.throwsArgument("set(0, 65536, 1, 1)", () -> x.set(0, 65536, 1, 1));
        check.throwsIndex("put(-1, 5, 1, 1)", () -> x.put(-1, 5, 1, 1));
        check.throwsArgument("put(0, -1, 1, 1)", () -> x.put(0, -1, 1, 1));
        check.throwsIndex("sum(0, 8, 1)", () -> x.sum(0, 8, 1));
        check.throwsIndex("less(8, 0, 1)", () -> x.less(8, 0, 1));
        check.throwsIndex("times(0, 2, 8)", () -> x.times(0, 2, 8));
        check.throwsIndex("only(-1, 5, true, 1)", () -> x.only(-1, 5, true, 1));
        check.throwsArgument("only(0, 65536, true, 1)", () -> x.only(0, 65536, true, 1));
        check.throwsIndex("part(0, 1, 8)", () -> x.part(0, 1, 8));
        check.throwsIndex("clear(8)", () -> x.clear(8));
        check.throwsIndex("amount(8, 5, 1)", () -> x.amount(8, 5, 1));
        check.throwsArgument("amount(0, -1, 1)", () -> x.amount(0, -1, 1));
        check.throwsIndex("size(8)", () -> x.size(8));
        check.throwsIndex("at(0, 3, 0)", () -> x.at(0, 3, 0));
        check.throwsIndex("compare(0, 8)", () -> x.compare(0, 8));
        check.throwsIndex("least(0, 1, 8)", () -> x.least(0, 1, 8));
        check.throwsIndex("into(8, 0)", () -> x.into(8, 0));
        check.throwsIndex("look(8, 0)", () -> x.look(8, 0));
        check.same("calls that threw", x, before);
    }

    private static void noneIsMinusOne() {
        check.sentence("NONE = -1");
        check.due("NONE", -1, CoinBag.NONE);
    }
}
