/**
 * Eight bags of coins. Each is kept in one form alone: its KINDS in their order, each once, and none
 * with an AMOUNT of 0.
 */
public final class CoinBag {
    public static final int NONE = -1;

    private static final int BAGS = 8;
    private static final int MOST_KINDS = 64;
    private static final int POLICIES = 65536;

    private static final int BY_SUM = 0;
    private static final int BY_DIFFERENCE = 1;
    private static final int BY_LEAST = 2;

    private final Bag[] bags;
    private final Pairs pairs;

    // A result is built here and takes its BAG's place only when it is whole: so a call that is
    // refused half-way changes nothing, and a result may take the place of what it is made from.
    private Bag spare;

    public CoinBag() {
        bags = new Bag[BAGS];
        for (int i = 0; i < BAGS; i++) {
            bags[i] = new Bag();
        }
        pairs = new Pairs();
        spare = new Bag();
    }

    public boolean set(int bag, int policy, long name, long amount)
            throws IndexOutOfBoundsException, IllegalArgumentException {
        requireBag(bag);
        requirePolicy(policy);
        return bags[bag].store(policy, name, amount);
    }

    public boolean put(int bag, int policy, long name, long amount)
            throws IndexOutOfBoundsException, IllegalArgumentException {
        requireBag(bag);
        requirePolicy(policy);
        long before = bags[bag].amountOf(policy, name);
        if (!sumFits(before, amount)) {
            return false;
        }
        return bags[bag].store(policy, name, before + amount);
    }

    public boolean sum(int a, int b, int c) throws IndexOutOfBoundsException {
        return combine(a, b, c, BY_SUM);
    }

    public boolean less(int a, int b, int c) throws IndexOutOfBoundsException {
        return combine(a, b, c, BY_DIFFERENCE);
    }

    public boolean times(int a, long n, int c) throws IndexOutOfBoundsException {
        requireBag(a);
        requireBag(c);
        Bag from = bags[a];
        spare.empty();
        for (int i = 0; i < from.count; i++) {
            if (!productFits(from.amounts[i], n)) {
                return false;
            }
            spare.append(from.policies[i], from.names[i], from.amounts[i] * n);
        }
        exchangeSpare(c);
        return true;
    }

    public void only(int a, int policy, boolean is, int c)
            throws IndexOutOfBoundsException, IllegalArgumentException {
        requireBag(a);
        requireBag(c);
        requirePolicy(policy);
        Bag from = bags[a];
        spare.empty();
        for (int i = 0; i < from.count; i++) {
            if ((from.policies[i] == policy) == is) {
                spare.append(from.policies[i], from.names[i], from.amounts[i]);
            }
        }
        exchangeSpare(c);
    }

    public boolean part(int a, int sign, int c) throws IndexOutOfBoundsException {
        requireBag(a);
        requireBag(c);
        if (sign != 1 && sign != -1) {
            return false;
        }
        Bag from = bags[a];
        spare.empty();
        for (int i = 0; i < from.count; i++) {
            long amount = from.amounts[i];
            if ((amount > 0) == (sign > 0)) {
                if (!productFits(amount, sign)) {
                    return false;
                }
                spare.append(from.policies[i], from.names[i], amount * sign);
            }
        }
        exchangeSpare(c);
        return true;
    }

    public void clear(int bag) throws IndexOutOfBoundsException {
        requireBag(bag);
        bags[bag].empty();
    }

    public long amount(int bag, int policy, long name)
            throws IndexOutOfBoundsException, IllegalArgumentException {
        requireBag(bag);
        requirePolicy(policy);
        return bags[bag].amountOf(policy, name);
    }

    public int size(int bag) throws IndexOutOfBoundsException {
        requireBag(bag);
        return bags[bag].count;
    }

    public long at(int bag, int i, int what) throws IndexOutOfBoundsException {
        requireBag(bag);
        Bag from = bags[bag];
        if (i < 0 || i >= from.count) {
            throw new IndexOutOfBoundsException("there is no such KIND");
        }
        switch (what) {
            case 0:
                return from.policies[i];
            case 1:
                return from.names[i];
            case 2:
                return from.amounts[i];
            default:
                throw new IndexOutOfBoundsException("there is no such what");
        }
    }

    public int compare(int a, int b) throws IndexOutOfBoundsException {
        requireBag(a);
        requireBag(b);
        pairs.align(bags[a], bags[b]);
        boolean more = false;
        boolean fewer = false;
        for (int i = 0; i < pairs.count; i++) {
            more = more || pairs.left[i] > pairs.right[i];
            fewer = fewer || pairs.left[i] < pairs.right[i];
        }
        if (more) {
            return fewer ? 3 : 1;
        }
        return fewer ? 2 : 0;
    }

    public boolean least(int a, int b, int c) throws IndexOutOfBoundsException {
        return combine(a, b, c, BY_LEAST);
    }

    public long into(int a, int b) throws IndexOutOfBoundsException {
        requireBag(a);
        requireBag(b);
        pairs.align(bags[a], bags[b]);
        boolean bounded = false;
        long most = Long.MAX_VALUE;
        long fewest = 0;
        for (int i = 0; i < pairs.count; i++) {
            long have = pairs.left[i];
            long want = pairs.right[i];
            if (want > 0) {
                bounded = true;
                most = Math.min(most, Math.floorDiv(have, want));
            } else {
                long needed = fewestTimes(have, want);
                if (needed == NONE) {
                    return NONE;
                }
                fewest = Math.max(fewest, needed);
            }
        }
        return bounded && fewest <= most ? most : NONE;
    }

    public int look(int bag, int which) throws IndexOutOfBoundsException {
        requireBag(bag);
        switch (which) {
            case 0:
                return bags[bag].countPolicies();
            case 1:
                return bags[bag].countBelowZero();
            case 2:
                return bags[bag].placeOfGreatest();
            default:
                return NONE;
        }
    }

    private static void requireBag(int bag) throws IndexOutOfBoundsException {
        if (bag < 0 || bag >= BAGS) {
            throw new IndexOutOfBoundsException("there is no such BAG");
        }
    }

    private static void requirePolicy(int policy) throws IllegalArgumentException {
        if (policy < 0 || policy >= POLICIES) {
            throw new IllegalArgumentException("there is no such POLICY");
        }
    }

    private void exchangeSpare(int c) {
        Bag old = bags[c];
        bags[c] = spare;
        spare = old;
    }

    private boolean combine(int a, int b, int c, int how) throws IndexOutOfBoundsException {
        requireBag(a);
        requireBag(b);
        requireBag(c);
        pairs.align(bags[a], bags[b]);
        spare.empty();
        for (int i = 0; i < pairs.count; i++) {
            long x = pairs.left[i];
            long y = pairs.right[i];
            if (!fits(how, x, y)) {
                return false;
            }
            if (!spare.append(pairs.policies[i], pairs.names[i], combined(how, x, y))) {
                return false;
            }
        }
        exchangeSpare(c);
        return true;
    }

    private static boolean fits(int how, long x, long y) {
        switch (how) {
            case BY_SUM:
                return sumFits(x, y);
            case BY_DIFFERENCE:
                return differenceFits(x, y);
            default:
                return true;
        }
    }

    private static long combined(int how, long x, long y) {
        switch (how) {
            case BY_SUM:
                return x + y;
            case BY_DIFFERENCE:
                return x - y;
            default:
                return Math.min(x, y);
        }
    }

    private static boolean sumFits(long x, long y) {
        return y >= 0 ? x <= Long.MAX_VALUE - y : x >= Long.MIN_VALUE - y;
    }

    private static boolean differenceFits(long x, long y) {
        return y >= 0 ? x >= Long.MIN_VALUE + y : x <= Long.MAX_VALUE + y;
    }

    private static boolean productFits(long x, long n) {
        if (n == 0) {
            return true;
        }
        // Apart, because Long.MIN_VALUE / -1 wraps round and would hide what doesn't fit.
        if (n == -1) {
            return x != Long.MIN_VALUE;
        }
        return x * n / n == x;
    }

    /**
     * The least n, 0 or more, for which have is not less than n times want, where want is not above
     * 0; NONE if no long is such an n.
     */
    private static long fewestTimes(long have, long want) {
        if (have >= 0) {
            return 0;
        }
        // Long.MIN_VALUE over -1 is one more than the greatest long.
        if (want == 0 || (want == -1 && have == Long.MIN_VALUE)) {
            return NONE;
        }
        long whole = have / want;
        return have % want == 0 ? whole : whole + 1;
    }

    private static int orderOf(int policy, long name, int otherPolicy, long otherName) {
        if (policy != otherPolicy) {
            return Integer.compare(policy, otherPolicy);
        }
        return Long.compareUnsigned(name, otherName);
    }

    /** The KINDS of one BAG in their order, each with its AMOUNT, in the first count places. */
    private static final class Bag {
        final int[] policies = new int[MOST_KINDS];
        final long[] names = new long[MOST_KINDS];
        final long[] amounts = new long[MOST_KINDS];
        int count = 0;

        void empty() {
            count = 0;
        }

        /** False if there is no room. The KIND must lie behind all that are here. */
        boolean append(int policy, long name, long amount) {
            if (amount == 0) {
                return true;
            }
            if (count >= MOST_KINDS) {
                return false;
            }
            policies[count] = policy;
            names[count] = name;
            amounts[count] = amount;
            count++;
            return true;
        }

        long amountOf(int policy, long name) {
            int place = placeFor(policy, name);
            return holdsAt(place, policy, name) ? amounts[place] : 0;
        }

        /** False if there is no room. */
        boolean store(int policy, long name, long amount) {
            int place = placeFor(policy, name);
            boolean held = holdsAt(place, policy, name);
            if (amount == 0) {
                if (held) {
                    removeAt(place);
                }
                return true;
            }
            if (!held) {
                if (count >= MOST_KINDS) {
                    return false;
                }
                makeRoomAt(place);
                policies[place] = policy;
                names[place] = name;
            }
            amounts[place] = amount;
            return true;
        }

        int countPolicies() {
            int found = 0;
            for (int i = 0; i < count; i++) {
                if (i == 0 || policies[i] != policies[i - 1]) {
                    found++;
                }
            }
            return found;
        }

        int countBelowZero() {
            int found = 0;
            for (int i = 0; i < count; i++) {
                if (amounts[i] < 0) {
                    found++;
                }
            }
            return found;
        }

        int placeOfGreatest() {
            int best = NONE;
            for (int i = 0; i < count; i++) {
                if (best == NONE || amounts[i] > amounts[best]) {
                    best = i;
                }
            }
            return best;
        }

        /** Where the KIND is, or where it would have to be put. */
        private int placeFor(int policy, long name) {
            for (int i = 0; i < count; i++) {
                if (orderOf(policies[i], names[i], policy, name) >= 0) {
                    return i;
                }
            }
            return count;
        }

        private boolean holdsAt(int place, int policy, long name) {
            return place < count && policies[place] == policy && names[place] == name;
        }

        private void removeAt(int place) {
            int behind = count - place - 1;
            System.arraycopy(policies, place + 1, policies, place, behind);
            System.arraycopy(names, place + 1, names, place, behind);
            System.arraycopy(amounts, place + 1, amounts, place, behind);
            count--;
        }

        private void makeRoomAt(int place) {
            int behind = count - place;
            System.arraycopy(policies, place, policies, place + 1, behind);
            System.arraycopy(names, place, names, place + 1, behind);
            System.arraycopy(amounts, place, amounts, place + 1, behind);
            count++;
        }
    }

    /** All KINDS that at least one of two BAGS has, in their order, with the AMOUNTS of both. */
    private static final class Pairs {
        private static final int MOST_PAIRS = 2 * MOST_KINDS;

        final int[] policies = new int[MOST_PAIRS];
        final long[] names = new long[MOST_PAIRS];
        final long[] left = new long[MOST_PAIRS];
        final long[] right = new long[MOST_PAIRS];
        int count = 0;

        void align(Bag a, Bag b) {
            int i = 0;
            int j = 0;
            count = 0;
            while (count < MOST_PAIRS && (i < a.count || j < b.count)) {
                int order = orderOfNext(a, i, b, j);
                Bag first = order <= 0 ? a : b;
                int place = order <= 0 ? i : j;
                policies[count] = first.policies[place];
                names[count] = first.names[place];
                left[count] = order <= 0 ? a.amounts[i] : 0;
                right[count] = order >= 0 ? b.amounts[j] : 0;
                i += order <= 0 ? 1 : 0;
                j += order >= 0 ? 1 : 0;
                count++;
            }
        }

        /** A BAG that is at its end lies behind the other. */
        private static int orderOfNext(Bag a, int i, Bag b, int j) {
            if (i >= a.count) {
                return 1;
            }
            if (j >= b.count) {
                return -1;
            }
            return orderOf(a.policies[i], a.names[i], b.policies[j], b.names[j]);
        }
    }
}
