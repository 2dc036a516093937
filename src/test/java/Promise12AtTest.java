public final class Promise12AtTest {
    public static void main(String[] args) {
        Check check = new Check("Promise 12: at");
        CoinBag x = Check.small();
        x.set(0, 65535, -1, Long.MIN_VALUE);
        long[][] rows = {{5, 1, 10}, {5, 2, -4}, {9, 0, 7}, {65535, -1, Long.MIN_VALUE}};
        for (int i = 0; i < rows.length; i++) {
            for (int what = 0; what < 3; what++) {
                check.due("at(0, " + i + ", " + what + ")", rows[i][what], x.at(0, i, what));
            }
        }
        fullBag(check);
        wrongInputs(check);
        check.end();
    }

    private static void fullBag(Check check) {
        CoinBag x = new CoinBag();
        Check.fill(x, 7, 3, 64, 9);
        check.due("at(7, 63, 1)", 63, x.at(7, 63, 1));
        check.throwsIndex("at(7, 64, 1)", () -> x.at(7, 64, 1));
        x.clear(7);
        check.throwsIndex("at(7, 0, 1) of an empty BAG", () -> x.at(7, 0, 1));
    }

    private static void wrongInputs(Check check) {
        CoinBag x = Check.small();
        String before = Check.all(x);
        for (int bag : Check.NO_BAGS) {
            check.throwsIndex("at(" + bag + ", 0, 0)", () -> x.at(bag, 0, 0));
        }
        for (int i : new int[] {-1, 3, 64, Integer.MIN_VALUE, Integer.MAX_VALUE}) {
            check.throwsIndex("at(0, " + i + ", 0)", () -> x.at(0, i, 0));
        }
        for (int what : new int[] {-1, 3, Integer.MIN_VALUE, Integer.MAX_VALUE}) {
            check.throwsIndex("at(0, 0, " + what + ")", () -> x.at(0, 0, what));
        }
        check.throwsIndex("at(7, 0, 2)", () -> x.at(7, 0, 2));
        check.same("wrong ats", x, before);
    }
}
