import java.util.LinkedHashMap;
import java.util.Map;
import java.util.function.ObjIntConsumer;

/** What the document's Terms say of which exception is thrown, for every BAG and POLICY of every method. */
public final class TermsExceptionsTest {
    private static final long MAX = Check.MAX;
    private static final Check check = new Check("Terms: exceptions");
    private static final Map<String, ObjIntConsumer<CoinBag>> BAG = new LinkedHashMap<>();
    private static final Map<String, ObjIntConsumer<CoinBag>> POLICY = new LinkedHashMap<>();

    static {
        BAG.put("set(?, 5, 1, 1)", (x, bag) -> x.set(bag, 5, 1, 1));
        BAG.put("put(?, 5, 1, 1)", (x, bag) -> x.put(bag, 5, 1, 1));
        BAG.put("sum(?, 1, 2)", (x, bag) -> x.sum(bag, 1, 2));
        BAG.put("sum(0, ?, 2)", (x, bag) -> x.sum(0, bag, 2));
        BAG.put("sum(0, 1, ?)", (x, bag) -> x.sum(0, 1, bag));
        BAG.put("less(?, 1, 2)", (x, bag) -> x.less(bag, 1, 2));
        BAG.put("less(0, ?, 2)", (x, bag) -> x.less(0, bag, 2));
        BAG.put("less(0, 1, ?)", (x, bag) -> x.less(0, 1, bag));
        BAG.put("times(?, 2, 1)", (x, bag) -> x.times(bag, 2, 1));
        BAG.put("times(0, 2, ?)", (x, bag) -> x.times(0, 2, bag));
        BAG.put("only(?, 5, true, 1)", (x, bag) -> x.only(bag, 5, true, 1));
        BAG.put("only(0, 5, false, ?)", (x, bag) -> x.only(0, 5, false, bag));
        BAG.put("part(?, 1, 1)", (x, bag) -> x.part(bag, 1, 1));
        BAG.put("part(0, -1, ?)", (x, bag) -> x.part(0, -1, bag));
        BAG.put("clear(?)", (x, bag) -> x.clear(bag));
        BAG.put("amount(?, 5, 1)", (x, bag) -> x.amount(bag, 5, 1));
        BAG.put("size(?)", (x, bag) -> x.size(bag));
        BAG.put("at(?, 0, 0)", (x, bag) -> x.at(bag, 0, 0));
        BAG.put("compare(?, 1)", (x, bag) -> x.compare(bag, 1));
        BAG.put("compare(0, ?)", (x, bag) -> x.compare(0, bag));
        BAG.put("least(?, 1, 2)", (x, bag) -> x.least(bag, 1, 2));
        BAG.put("least(0, ?, 2)", (x, bag) -> x.least(0, bag, 2));
        BAG.put("least(0, 1, ?)", (x, bag) -> x.least(0, 1, bag));
        BAG.put("into(?, 1)", (x, bag) -> x.into(bag, 1));
        BAG.put("into(0, ?)", (x, bag) -> x.into(0, bag));
        BAG.put("look(?, 0)", (x, bag) -> x.look(bag, 0));
        POLICY.put("set(0, ?, 1, 1)", (x, policy) -> x.set(0, policy, 1, 1));
        POLICY.put("put(0, ?, 1, 1)", (x, policy) -> x.put(0, policy, 1, 1));
        POLICY.put("only(0, ?, true, 1)", (x, policy) -> x.only(0, policy, true, 1));
        POLICY.put("only(0, ?, false, 1)", (x, policy) -> x.only(0, policy, false, 1));
        POLICY.put("amount(0, ?, 1)", (x, policy) -> x.amount(0, policy, 1));
    }

    public static void main(String[] args) {
        noSuchBag();
        noSuchPolicy();
        bagBeforePolicy();
        throwsBeforeFalse();
        throwsBeforeNone();
        check.end();
    }

    private static void noSuchBag() {
        check.sentence("BAG means: IndexOutOfBoundsException if there is no such BAG");
        for (Map.Entry<String, ObjIntConsumer<CoinBag>> call : BAG.entrySet()) {
            CoinBag x = Check.small();
            String before = Check.all(x);
            for (int bag : Check.NO_BAGS) {
                String told = call.getKey() + " with BAG " + bag;
                check.throwsIndex(told, () -> call.getValue().accept(x, bag));
                check.same(told, x, before);
            }
            for (int bag : new int[] {0, 7}) {
                CoinBag y = Check.small();
                y.set(7, 1, 1, 1);
                check.throwsNothing(call.getKey() + " with BAG " + bag, () -> call.getValue().accept(y, bag));
            }
        }
    }

    private static void noSuchPolicy() {
        check.sentence("POLICY: IllegalArgumentException if there is no such POLICY");
        for (Map.Entry<String, ObjIntConsumer<CoinBag>> call : POLICY.entrySet()) {
            CoinBag x = Check.small();
            String before = Check.all(x);
            for (int policy : Check.NO_POLICIES) {
                String told = call.getKey() + " with POLICY " + policy;
                check.throwsArgument(told, () -> call.getValue().accept(x, policy));
                check.same(told, x, before);
            }
            for (int policy : new int[] {0, 65535}) {
                check.throwsNothing(call.getKey() + " with POLICY " + policy,
                        () -> call.getValue().accept(Check.small(), policy));
            }
        }
    }

    private static void bagBeforePolicy() {
        check.sentence("Of several exceptions the first one listed is thrown");
        CoinBag x = Check.small();
        String before = Check.all(x);
        for (int bag : Check.NO_BAGS) {
            for (int policy : Check.NO_POLICIES) {
                String told = " with BAG " + bag + " and POLICY " + policy;
                check.throwsIndex("set" + told, () -> x.set(bag, policy, 1, 1));
                check.throwsIndex("put" + told, () -> x.put(bag, policy, 1, 1));
                check.throwsIndex("only" + told + " as a", () -> x.only(bag, policy, true, 1));
                check.throwsIndex("only" + told + " as c", () -> x.only(0, policy, false, bag));
                check.throwsIndex("only" + told + " as both", () -> x.only(bag, policy, true, bag));
                check.throwsIndex("amount" + told, () -> x.amount(bag, policy, 1));
            }
        }
        check.same("two exceptions", x, before);
    }

    private static void throwsBeforeFalse() {
        check.sentence("BAG; POLICY: also where the answer would be false");
        CoinBag x = new CoinBag();
        Check.fill(x, 0, 1, 64, MAX);
        x.set(1, 2, 2, 2);
        check.throwsArgument("set in a full BAG", () -> x.set(0, 65536, 0, 1));
        check.throwsArgument("put in a full BAG", () -> x.put(0, -1, 0, 1));
        check.throwsIndex("sum to 65 KINDS in BAG 8", () -> x.sum(0, 1, 8));
        check.throwsIndex("sum of MAX and MAX in BAG -1", () -> x.sum(0, 0, -1));
        check.throwsIndex("less to 65 KINDS in BAG 8", () -> x.less(0, 1, 8));
        check.throwsIndex("least to 65 KINDS in BAG 8", () -> x.least(0, 1, 8));
        check.throwsIndex("times 2 of MAX in BAG 8", () -> x.times(0, 2, 8));
        check.throwsIndex("part of sign 0 in BAG 8", () -> x.part(0, 0, 8));
        check.throwsIndex("part of sign 0 from BAG -1", () -> x.part(-1, 0, 0));
        check.bag("all that", x, 0, Check.filled(1, 64, MAX));
    }

    private static void throwsBeforeNone() {
        check.sentence("BAG: also where the answer would be NONE");
        CoinBag x = new CoinBag();
        check.throwsIndex("into(7, 8)", () -> x.into(7, 8));
        check.throwsIndex("into(-1, 7)", () -> x.into(-1, 7));
        check.throwsIndex("look(8, 2)", () -> x.look(8, 2));
        check.throwsIndex("look(8, 3)", () -> x.look(8, 3));
        check.throwsIndex("look(-1, -1)", () -> x.look(-1, -1));
    }
}
