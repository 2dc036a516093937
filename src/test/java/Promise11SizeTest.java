public final class Promise11SizeTest {
    public static void main(String[] args) {
        Check check = new Check("Promise 11: size");
        CoinBag x = Check.small();
        check.due("size(0)", 3, x.size(0));
        check.due("size(1)", 2, x.size(1));
        check.due("size(2)", 1, x.size(2));
        check.due("size(7)", 0, x.size(7));
        x.set(0, 5, 1, 11);
        check.due("size(0) after another AMOUNT", 3, x.size(0));
        x.set(0, 5, 1, 0);
        check.due("size(0) after an AMOUNT of 0", 2, x.size(0));
        x.sum(0, 1, 7);
        check.due("size(7) after sum(0, 1, 7)", 4, x.size(7));
        Check.fill(x, 4, 8, 70, 1);
        check.due("size(4)", 64, x.size(4));
        for (int bag : Check.NO_BAGS) {
            check.throwsIndex("size(" + bag + ")", () -> x.size(bag));
        }
        check.end();
    }
}
