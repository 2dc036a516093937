import java.math.BigInteger;
import java.util.function.Supplier;

/** Long runs of mixed calls, each answer compared with that of the slow and plain Reference. */
public final class ReferenceTest {
    private static final int CALLS = 512;
    private static final int RUNS = 3000;
    private static final long[] EDGES = {Long.MIN_VALUE, Long.MIN_VALUE + 1, -(1L << 62), -3, -2, -1, 0, 1, 2, 3,
        1L << 31, 1L << 32, 1L << 62, Long.MAX_VALUE - 1, Long.MAX_VALUE};
    private static final int[] POLICIES = {0, 1, 2, 65535};
    private static final Check check = new Check("Runs beside the reference");

    private final CoinBag x = new CoinBag();
    private final Reference due = new Reference();
    private final boolean wide;
    private long state;
    private int calls = 0;

    private ReferenceTest(int run) {
        state = 0x9E3779B97F4A7C15L * (run + 1);
        wide = run % 3 == 0;
    }

    public static void main(String[] args) {
        for (int run = 0; run < RUNS; run++) {
            new ReferenceTest(run).go();
        }
        check.end();
    }

    private void go() {
        for (int i = 0; wide && i < 130; i++) {
            set(i % 2, POLICIES[i % 4], i / 2, pick(2) == 0 ? -5 : 7);
        }
        while (calls < CALLS) {
            int bag = oneCall();
            if (bag >= 0 && bag < 8 && calls + 2 <= CALLS) {
                size(bag);
                at(bag, pick(wide ? 66 : 6), pick(3));
            }
        }
    }

    // Written out so that every machine gives the same runs.
    private int pick(int bound) {
        state ^= state << 13;
        state ^= state >>> 7;
        state ^= state << 17;
        return (int) Long.remainderUnsigned(state >>> 8, bound);
    }

    private int bag() {
        return pick(60) == 0 ? Check.NO_BAGS[pick(4)] : pick(pick(3) == 0 ? 8 : 3);
    }

    private int policy() {
        return pick(40) == 0 ? Check.NO_POLICIES[pick(4)] : POLICIES[pick(4)];
    }

    private long name() {
        return wide ? pick(40) : EDGES[pick(EDGES.length)];
    }

    private long amount() {
        return pick(3) == 0 ? EDGES[pick(EDGES.length)] : pick(21) - 10;
    }

    private void compare(String call, String want, Supplier<Object> got) {
        calls++;
        String answer;
        try {
            answer = String.valueOf(got.get());
        } catch (RuntimeException e) {
            answer = e.getClass().getSimpleName();
        }
        check.due("call " + calls + " " + call, want, answer);
    }

    private void set(int bag, int policy, long name, long amount) {
        compare("set(" + bag + ", " + policy + ", " + name + ", " + amount + ")",
                due.set(bag, policy, name, amount, false), () -> x.set(bag, policy, name, amount));
    }

    private void put(int bag, int policy, long name, long amount) {
        compare("put(" + bag + ", " + policy + ", " + name + ", " + amount + ")",
                due.set(bag, policy, name, amount, true), () -> x.put(bag, policy, name, amount));
    }

    private void size(int bag) {
        compare("size(" + bag + ")", due.size(bag), () -> x.size(bag));
    }

    private void at(int bag, int i, int what) {
        compare("at(" + bag + ", " + i + ", " + what + ")", due.at(bag, i, what), () -> x.at(bag, i, what));
    }

    /** Makes a call and tells the BAG that it may have changed, or that it was about. */
    private int oneCall() {
        int kind = pick(24);
        int a = bag();
        int b = bag();
        int c = bag();
        if (kind < 10) {
            return changeOneKind(kind, a);
        }
        if (kind < 18) {
            return changeBag(kind, a, b, c);
        }
        ask(kind, a, b);
        return -1;
    }

    private int changeOneKind(int kind, int bag) {
        int policy = policy();
        long name = name();
        long amount = pick(6) == 0 ? 0 : amount();
        if (kind < 5) {
            set(bag, policy, name, amount);
        } else if (kind < 9) {
            put(bag, policy, name, amount);
        } else {
            compare("amount(" + bag + ", " + policy + ", " + name + ")",
                    due.amount(bag, policy, name), () -> x.amount(bag, policy, name));
        }
        return bag;
    }

    private int changeBag(int kind, int a, int b, int c) {
        String three = "(" + a + ", " + b + ", " + c + ")";
        long n = pick(3) == 0 ? EDGES[pick(EDGES.length)] : pick(5) - 2;
        int policy = policy();
        boolean is = pick(3) == 0;
        int sign = pick(8) == 0 ? pick(7) - 3 : pick(2) * 2 - 1;
        switch (kind) {
            case 10 -> compare("sum" + three, due.combine(a, b, c, BigInteger::add), () -> x.sum(a, b, c));
            case 11 -> compare("sum" + three, due.combine(a, b, c, BigInteger::add), () -> x.sum(a, b, c));
            case 12 -> compare("less" + three, due.combine(a, b, c, BigInteger::subtract), () -> x.less(a, b, c));
            case 13 -> compare("least" + three, due.combine(a, b, c, BigInteger::min), () -> x.least(a, b, c));
            case 14 -> compare("times(" + a + ", " + n + ", " + c + ")", due.times(a, n, c), () -> x.times(a, n, c));
            case 15 -> compare("part(" + a + ", " + sign + ", " + c + ")",
                    due.part(a, sign, c), () -> x.part(a, sign, c));
            case 16 -> compare("only(" + a + ", " + policy + ", " + is + ", " + c + ")",
                    due.only(a, policy, is, c), () -> {
                        x.only(a, policy, is, c);
                        return "nothing";
                    });
            default -> clearSeldom(c);
        }
        return c;
    }

    // A BAG that is cleared often never fills.
    private void clearSeldom(int bag) {
        if (pick(3) != 0) {
            size(bag);
            return;
        }
        compare("clear(" + bag + ")", due.clear(bag), () -> {
            x.clear(bag);
            return "nothing";
        });
    }

    private void ask(int kind, int a, int b) {
        int which = pick(6) == 0 ? pick(6) - 2 : pick(3);
        int i = pick(wide ? 67 : 8) - 1;
        int what = pick(5) - 1;
        switch (kind) {
            case 18 -> compare("compare(" + a + ", " + b + ")", due.compare(a, b), () -> x.compare(a, b));
            case 19 -> at(a, i, what);
            case 20, 21 -> compare("into(" + a + ", " + b + ")", due.into(a, b), () -> x.into(a, b));
            default -> compare("look(" + a + ", " + which + ")", due.look(a, which), () -> x.look(a, which));
        }
    }
}
