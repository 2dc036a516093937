import java.math.BigInteger;
import java.util.ArrayList;
import java.util.Comparator;
import java.util.List;
import java.util.Map;
import java.util.TreeMap;
import java.util.TreeSet;
import java.util.function.BinaryOperator;

/**
 * The document once more, without a thought of room or speed: a map for each BAG, AMOUNTS without a
 * limit, looked at for their limits only at the end. It answers a call by text: a number, a boolean,
 * or the name of the exception.
 */
final class Reference {
    private static final BigInteger LEAST_LONG = BigInteger.valueOf(Long.MIN_VALUE);
    private static final BigInteger GREATEST_LONG = BigInteger.valueOf(Long.MAX_VALUE);
    private static final Comparator<Kind> ORDER = Comparator.comparingInt(Kind::policy)
            .thenComparing(k -> new BigInteger(Long.toUnsignedString(k.name())));

    record Kind(int policy, long name) {
    }

    private final List<TreeMap<Kind, BigInteger>> bags = new ArrayList<>();

    Reference() {
        for (int i = 0; i < 8; i++) {
            bags.add(new TreeMap<>(ORDER));
        }
    }

    /** What is thrown for the BAGS and the POLICY of a call, or null. */
    private String fault(int policy, int... used) {
        for (int bag : used) {
            if (bag < 0 || bag > 7) {
                return "IndexOutOfBoundsException";
            }
        }
        return policy < 0 || policy > 65535 ? "IllegalArgumentException" : null;
    }

    private String replace(int c, TreeMap<Kind, BigInteger> result) {
        result.values().removeIf(v -> v.signum() == 0);
        boolean can = result.size() <= 64;
        for (BigInteger v : result.values()) {
            can = can && v.compareTo(LEAST_LONG) >= 0 && v.compareTo(GREATEST_LONG) <= 0;
        }
        if (can) {
            bags.set(c, result);
        }
        return String.valueOf(can);
    }

    private BigInteger of(int bag, Kind kind) {
        return bags.get(bag).getOrDefault(kind, BigInteger.ZERO);
    }

    private TreeSet<Kind> kinds(int a, int b) {
        TreeSet<Kind> all = new TreeSet<>(ORDER);
        all.addAll(bags.get(a).keySet());
        all.addAll(bags.get(b).keySet());
        return all;
    }

    String set(int bag, int policy, long name, long amount, boolean more) {
        String fault = fault(policy, bag);
        if (fault != null) {
            return fault;
        }
        TreeMap<Kind, BigInteger> result = new TreeMap<>(bags.get(bag));
        Kind kind = new Kind(policy, name);
        BigInteger before = more ? of(bag, kind) : BigInteger.ZERO;
        result.put(kind, before.add(BigInteger.valueOf(amount)));
        return replace(bag, result);
    }

    String combine(int a, int b, int c, BinaryOperator<BigInteger> how) {
        String fault = fault(0, a, b, c);
        if (fault != null) {
            return fault;
        }
        TreeMap<Kind, BigInteger> result = new TreeMap<>(ORDER);
        for (Kind kind : kinds(a, b)) {
            result.put(kind, how.apply(of(a, kind), of(b, kind)));
        }
        return replace(c, result);
    }

    String times(int a, long n, int c) {
        String fault = fault(0, a, c);
        if (fault != null) {
            return fault;
        }
        TreeMap<Kind, BigInteger> result = new TreeMap<>(bags.get(a));
        result.replaceAll((k, v) -> v.multiply(BigInteger.valueOf(n)));
        return replace(c, result);
    }

    String only(int a, int policy, boolean is, int c) {
        String fault = fault(policy, a, c);
        if (fault != null) {
            return fault;
        }
        TreeMap<Kind, BigInteger> result = new TreeMap<>(bags.get(a));
        result.keySet().removeIf(k -> is != (k.policy() == policy));
        replace(c, result);
        return "nothing";
    }

    String part(int a, int sign, int c) {
        String fault = fault(0, a, c);
        if (fault != null) {
            return fault;
        }
        if (Math.abs((long) sign) != 1) {
            return "false";
        }
        TreeMap<Kind, BigInteger> result = new TreeMap<>(bags.get(a));
        result.values().removeIf(v -> v.signum() != sign);
        result.replaceAll((k, v) -> v.abs());
        return replace(c, result);
    }

    String clear(int bag) {
        String fault = fault(0, bag);
        if (fault != null) {
            return fault;
        }
        bags.get(bag).clear();
        return "nothing";
    }

    String amount(int bag, int policy, long name) {
        String fault = fault(policy, bag);
        return fault != null ? fault : of(bag, new Kind(policy, name)).toString();
    }

    String size(int bag) {
        String fault = fault(0, bag);
        return fault != null ? fault : String.valueOf(bags.get(bag).size());
    }

    String at(int bag, int i, int what) {
        String fault = fault(0, bag);
        if (fault != null || i < 0 || i >= bags.get(bag).size() || what < 0 || what > 2) {
            return "IndexOutOfBoundsException";
        }
        Map.Entry<Kind, BigInteger> row = new ArrayList<>(bags.get(bag).entrySet()).get(i);
        return what == 0 ? String.valueOf(row.getKey().policy())
                : what == 1 ? String.valueOf(row.getKey().name()) : row.getValue().toString();
    }

    String compare(int a, int b) {
        String fault = fault(0, a, b);
        if (fault != null) {
            return fault;
        }
        long less = kinds(a, b).stream().filter(k -> of(a, k).compareTo(of(b, k)) < 0).count();
        long more = kinds(a, b).stream().filter(k -> of(a, k).compareTo(of(b, k)) > 0).count();
        return less == 0 && more == 0 ? "0" : less == 0 ? "1" : more == 0 ? "2" : "3";
    }

    private boolean nowhereLess(int a, BigInteger n, int b) {
        return kinds(a, b).stream().allMatch(k -> of(a, k).compareTo(n.multiply(of(b, k))) >= 0);
    }

    // One KIND with an AMOUNT of b above 0 bounds n, and what n could be lies without gaps: so the
    // greatest n that no KIND forbids as too great is the answer, or there is none.
    String into(int a, int b) {
        String fault = fault(0, a, b);
        if (fault != null) {
            return fault;
        }
        BigInteger most = null;
        for (Kind kind : kinds(a, b)) {
            if (of(b, kind).signum() > 0) {
                BigInteger whole = of(a, kind).divide(of(b, kind));
                most = most == null ? whole : most.min(whole);
            }
        }
        return most == null || most.signum() < 0 || !nowhereLess(a, most, b) ? "-1" : most.toString();
    }

    String look(int bag, int which) {
        String fault = fault(0, bag);
        if (fault != null) {
            return fault;
        }
        TreeMap<Kind, BigInteger> from = bags.get(bag);
        switch (which) {
            case 0:
                return String.valueOf(from.keySet().stream().map(Kind::policy).distinct().count());
            case 1:
                return String.valueOf(from.values().stream().filter(v -> v.signum() < 0).count());
            case 2:
                List<BigInteger> amounts = new ArrayList<>(from.values());
                return String.valueOf(amounts.isEmpty() ? -1
                        : amounts.indexOf(amounts.stream().max(Comparator.naturalOrder()).get()));
            default:
                return "-1";
        }
    }
}
