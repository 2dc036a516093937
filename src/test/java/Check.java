/** What the tests share: it compares answers with those that are due and tells the wrong ones. */
final class Check {
    static final int[] NO_BAGS = {-1, 8, Integer.MIN_VALUE, Integer.MAX_VALUE};
    static final int[] NO_POLICIES = {-1, 65536, Integer.MIN_VALUE, Integer.MAX_VALUE};
    static final long MIN = Long.MIN_VALUE;
    static final long MAX = Long.MAX_VALUE;

    private final String title;
    private String sentence = "";
    private int sentences = 0;
    private int answersBefore = 0;
    private int right = 0;
    private int wrong = 0;

    Check(String title) {
        this.title = title;
    }

    /** The document's words that the checks from here on belong to. */
    void sentence(String words) {
        closeSentence();
        sentence = words;
        sentences++;
        answersBefore = right + wrong;
    }

    // A sentence that is named but looked at by nothing would seem to be tested.
    private void closeSentence() {
        if (sentences > 0 && right + wrong == answersBefore) {
            wrong++;
            System.out.println(title + ": nothing is checked for \"" + sentence + "\"");
        }
    }

    void due(String call, Object want, Object got) {
        if (want.equals(got)) {
            right++;
        } else {
            wrong++;
            System.out.println(title + ", \"" + sentence + "\": " + call + " answered " + got + ", due is " + want);
        }
    }

    void due(String call, long want, long got) {
        due(call, (Object) want, (Object) got);
    }

    void yes(String call, boolean got) {
        due(call, (Object) true, (Object) got);
    }

    void no(String call, boolean got) {
        due(call, (Object) false, (Object) got);
    }

    void throwsNothing(String call, Runnable run) {
        due(call, "nothing", thrownBy(run));
    }

    void throwsIndex(String call, Runnable run) {
        due(call, "IndexOutOfBoundsException", thrownBy(run));
    }

    void throwsArgument(String call, Runnable run) {
        due(call, "IllegalArgumentException", thrownBy(run));
    }

    // By the class's own name, so that an ArrayIndexOutOfBoundsException of the machine counts as wrong.
    static String thrownBy(Runnable run) {
        try {
            run.run();
            return "nothing";
        } catch (RuntimeException e) {
            return e.getClass().getSimpleName();
        }
    }

    /** The KINDS of a BAG as "policy/name:amount ..", the NAME as a number without a sign. */
    static String bag(CoinBag x, int bag) {
        StringBuilder text = new StringBuilder();
        int size = x.size(bag);
        for (int i = 0; i < size; i++) {
            text.append(i == 0 ? "" : " ").append(x.at(bag, i, 0)).append('/')
                    .append(Long.toUnsignedString(x.at(bag, i, 1))).append(':').append(x.at(bag, i, 2));
        }
        return text.toString();
    }

    void bag(String call, CoinBag x, int bag, String want) {
        due("after " + call + " BAG " + bag, want, bag(x, bag));
    }

    /** All BAGS: two of these before and after a call show that it changed nothing. */
    static String all(CoinBag x) {
        StringBuilder text = new StringBuilder();
        for (int bag = 0; bag < 8; bag++) {
            text.append(bag).append('[').append(bag(x, bag)).append(']');
        }
        return text.toString();
    }

    void same(String call, CoinBag x, String before) {
        due("after " + call + " all BAGS", before, all(x));
    }

    /** A new object of three small BAGS 0, 1 and 2, the others empty. */
    static CoinBag small() {
        CoinBag x = new CoinBag();
        x.set(0, 5, 1, 10);
        x.set(0, 5, 2, -4);
        x.set(0, 9, 0, 7);
        x.set(1, 5, 1, 3);
        x.set(1, 7, -1, 2);
        x.set(2, 1, 1, 1);
        return x;
    }

    /** Gives a BAG so many KINDS of one POLICY, of the NAMES from 0 on, all with the same AMOUNT. */
    static void fill(CoinBag x, int bag, int policy, int kinds, long amount) {
        for (int name = 0; name < kinds; name++) {
            x.set(bag, policy, name, amount);
        }
    }

    /** What bag tells of a BAG that fill has made. */
    static String filled(int policy, int kinds, long amount) {
        StringBuilder text = new StringBuilder();
        for (int name = 0; name < kinds; name++) {
            text.append(name == 0 ? "" : " ").append(policy).append('/').append(name).append(':').append(amount);
        }
        return text.toString();
    }

    void end() {
        closeSentence();
        System.out.println(title + ": " + right + " right, " + wrong + " wrong"
                + (sentences == 0 ? "" : ", for " + sentences + " sentences or parts of one"));
        if (wrong != 0 || right == 0) {
            System.exit(1);
        }
    }
}
