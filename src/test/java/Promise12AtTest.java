public final class Promise12AtTest {
    private static final Check check = new Check("Promise 12: at");

    public static void main(String[] args) {
        policyNameAmount();
        firstAndLastOfAFullBag();
        noSuchBag();
        noSuchKind();
        noKindOfAnEmptyBag();
        noSuchWhat();
        severalAreWrong();
        check.end();
    }

    private static void policyNameAmount() {
        check.sentence("Of the i-th KIND of a BAG, from 0 on: what 0: POLICY, 1: NAME, 2: AMOUNT");
        CoinBag x = Check.small();
        x.set(0, 65535, -1, Check.MIN);
        x.set(0, 0, Check.MIN, Check.MAX);
        long[][] rows = {{0, Check.MIN, Check.MAX}, {5, 1, 10}, {5, 2, -4}, {9, 0, 7}, {65535, -1, Check.MIN}};
        for (int i = 0; i < rows.length; i++) {
            for (int what = 0; what < 3; what++) {
                check.due("at(0, " + i + ", " + what + ")", rows[i][what], x.at(0, i, what));
            }
        }
    }

    private static void firstAndLastOfAFullBag() {
        check.sentence("Of the i-th KIND of a BAG: 0 and 63 of a full one");
        CoinBag x = new CoinBag();
        Check.fill(x, 7, 3, 64, 9);
        check.due("at(7, 0, 1)", 0, x.at(7, 0, 1));
        check.due("at(7, 63, 0)", 3, x.at(7, 63, 0));
        check.due("at(7, 63, 1)", 63, x.at(7, 63, 1));
        check.due("at(7, 63, 2)", 9, x.at(7, 63, 2));
        for (int what = 0; what < 3; what++) {
            int w = what;
            check.throwsIndex("at(7, 64, " + what + ")", () -> x.at(7, 64, w));
            check.throwsIndex("at(7, -1, " + what + ")", () -> x.at(7, -1, w));
        }
        x.set(7, 3, 0, 0);
        check.due("at(7, 62, 1) after one has gone", 63, x.at(7, 62, 1));
        check.throwsIndex("at(7, 63, 1) after one has gone", () -> x.at(7, 63, 1));
    }

    private static void noSuchBag() {
        check.sentence("IndexOutOfBoundsException if there is no such BAG");
        CoinBag x = Check.small();
        for (int bag : Check.NO_BAGS) {
            for (int what = 0; what < 3; what++) {
                int w = what;
                check.throwsIndex("at(" + bag + ", 0, " + what + ")", () -> x.at(bag, 0, w));
            }
        }
    }

    private static void noSuchKind() {
        check.sentence("IndexOutOfBoundsException if there is no such .. KIND");
        CoinBag x = Check.small();
        String before = Check.all(x);
        for (int i : new int[] {-1, 3, 63, 64, 128, Integer.MIN_VALUE, Integer.MAX_VALUE}) {
            for (int what = 0; what < 3; what++) {
                int w = what;
                check.throwsIndex("at(0, " + i + ", " + what + ")", () -> x.at(0, i, w));
            }
        }
        check.same("wrong ats", x, before);
    }

    private static void noKindOfAnEmptyBag() {
        check.sentence("IndexOutOfBoundsException if there is no such .. KIND: in an empty BAG");
        CoinBag x = Check.small();
        check.throwsIndex("at(7, 0, 2)", () -> x.at(7, 0, 2));
        x.clear(0);
        for (int what = 0; what < 3; what++) {
            int w = what;
            check.throwsIndex("at(0, 0, " + what + ") after clear(0)", () -> x.at(0, 0, w));
        }
        x.set(2, 1, 1, 0);
        check.throwsIndex("at(2, 0, 0) after its only KIND has gone", () -> x.at(2, 0, 0));
    }

    private static void noSuchWhat() {
        check.sentence("IndexOutOfBoundsException if there is no such .. what");
        CoinBag x = Check.small();
        String before = Check.all(x);
        for (int what : new int[] {-1, 3, 256, Integer.MIN_VALUE, Integer.MAX_VALUE}) {
            check.throwsIndex("at(0, 0, " + what + ")", () -> x.at(0, 0, what));
            check.throwsIndex("at(0, 2, " + what + ")", () -> x.at(0, 2, what));
        }
        check.same("wrong ats", x, before);
    }

    private static void severalAreWrong() {
        check.sentence("IndexOutOfBoundsException if there is no such BAG, KIND or what: several");
        CoinBag x = Check.small();
        check.throwsIndex("at(8, 99, 0)", () -> x.at(8, 99, 0));
        check.throwsIndex("at(-1, 0, 3)", () -> x.at(-1, 0, 3));
        check.throwsIndex("at(0, -1, -1)", () -> x.at(0, -1, -1));
        check.throwsIndex("at(8, -1, 3)", () -> x.at(8, -1, 3));
    }
}
