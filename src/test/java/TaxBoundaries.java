/** The boundary cases of the promises 27 to 30: taxes. */
final class TaxBoundaries extends Sentences {
    /** 5 and 50 % are 7.5, which is half way, and so is -5 below 0, by each way from 0 to 6. */
    private static final int[] HALF_ON_TOP = {8, 7, 8, 7, 8, 7, 8};
    private static final int[] HALF_ON_TOP_BELOW = {-8, -7, -7, -8, -8, -7, -8};
    /** 15 without 20 % is 12.5. */
    private static final int[] HALF_WITHIN = {13, 12, 13, 12, 13, 12, 12};
    private static final int[] HALF_WITHIN_BELOW = {-13, -12, -12, -13, -13, -12, -12};

    TaxBoundaries(Check check, Document document) {
        super(check, document);
    }

    @Override
    void run() {
        onTop();
        within();
        undone();
        redone();
    }

    private void onTop() {
        promise(27);
        holds("`net`: the amount, any number of the least money", x -> {
            due("the greatest", 4294752546L, x.onTop(MAX, 9999, UP));
            due("the least", -4294752548L, x.onTop(MIN, 9999, UP));
            due("the least, to the ceiling", -4294752547L, x.onTop(MIN, 9999, CEILING));
            due("none", 0, x.onTop(0, 9999, UP));
            due("one, up", 2, x.onTop(1, 1, UP));
            due("one below 0, to the ceiling", -1, x.onTop(-1, 1, CEILING));
        });
        holds("`rate`: 0 to 9999", x -> {
            due("the least", 10000, x.onTop(10000, 0, UP));
            due("the greatest", 19999, x.onTop(10000, 9999, UP));
            due("the greatest amount and the least rate", MAX, x.onTop(MAX, 0, UP));
            outside("rate", x, ARGUMENT, 0, 9999, rate -> x.onTop(1, rate, UP));
        });
        holds("`way`: 0 to 6", x -> {
            for (int way = UP; way <= HALF_EVEN; way++) {
                due("way " + way, HALF_ON_TOP[way], x.onTop(5, 5000, way));
                due("below 0, way " + way, HALF_ON_TOP_BELOW[way], x.onTop(-5, 5000, way));
            }
            outside("way", x, ARGUMENT, 0, 6, way -> x.onTop(1, 0, way));
        });
        holds("Returns the amount with it.", x -> {
            due("less than half", 10001, x.onTop(10000, 1, DOWN));
            due("4999 ten-thousandths", 4999, x.onTop(4999, 1, HALF_UP));
            due("half", 5001, x.onTop(5000, 1, HALF_UP));
            due("half, down", 5000, x.onTop(5000, 1, HALF_DOWN));
            due("5001 ten-thousandths", 5002, x.onTop(5001, 1, HALF_DOWN));
        });
        holds("Throws `IllegalArgumentException` if the rate or the way are out of range", x -> {
            fill(x, 0);
            refused("the rate", x, ARGUMENT, () -> x.onTop(0, 10000, 0));
            refused("the way", x, ARGUMENT, () -> x.onTop(0, 0, 7));
            refused("both", x, ARGUMENT, () -> x.onTop(MIN, -1, -1));
        });
    }

    private void within() {
        promise(28);
        holds("`gross`: the amount, any number of the least money", x -> {
            due("the greatest", 1073795514L, x.within(MAX, 9999, UP));
            due("the least", -1073795514L, x.within(MIN, 9999, UP));
            due("the least, to the ceiling", -1073795513L, x.within(MIN, 9999, CEILING));
            due("none", 0, x.within(0, 9999, UP));
            due("one, up", 1, x.within(1, 9999, UP));
            due("one below 0, to the ceiling", 0, x.within(-1, 9999, CEILING));
        });
        holds("`rate`: 0 to 9999", x -> {
            due("the least", 19999, x.within(19999, 0, UP));
            due("the greatest", 10000, x.within(19999, 9999, UP));
            due("the least amount and the least rate", MIN, x.within(MIN, 0, DOWN));
            outside("rate", x, ARGUMENT, 0, 9999, rate -> x.within(1, rate, UP));
        });
        holds("`way`: 0 to 6", x -> {
            for (int way = UP; way <= HALF_EVEN; way++) {
                due("way " + way, HALF_WITHIN[way], x.within(15, 2000, way));
                due("below 0, way " + way, HALF_WITHIN_BELOW[way], x.within(-15, 2000, way));
            }
            outside("way", x, ARGUMENT, 0, 6, way -> x.within(1, 0, way));
        });
        holds("Returns the amount without it.", x -> {
            due("10000 of 19999", 1, x.within(1, 9999, HALF_DOWN));
            due("30000 of 19999, up", 2, x.within(3, 9999, HALF_DOWN));
            due("half of 3 is 1.5, of 1.9998 it is a little more", 2, x.within(3, 9998, HALF_DOWN));
            due("half, to the even one", 2, x.within(3, 2000, HALF_EVEN));
            due("just less than half", 5000, x.within(5001, 1, HALF_UP));
        });
        holds("Throws `IllegalArgumentException` if the rate or the way are out of range", x -> {
            fill(x, 0);
            refused("the rate", x, ARGUMENT, () -> x.within(0, 10000, 0));
            refused("the way", x, ARGUMENT, () -> x.within(0, 0, 7));
            refused("both", x, ARGUMENT, () -> x.within(MIN, -1, -1));
        });
    }

    private void undone() {
        promise(29);
        holds("`net`: the amount, any number of the least money", x -> {
            due("the greatest", 0, x.undone(MAX, 9999, HALF_EVEN, HALF_EVEN));
            due("the greatest, up", 1, x.undone(MAX, 9999, UP, UP));
            due("the least, up", -1, x.undone(MIN, 9999, UP, UP));
            due("none, up", 0, x.undone(0, 9999, UP, UP));
        });
        holds("`rate`: 0 to 9999", x -> {
            due("the least", 0, x.undone(7, 0, UP, UP));
            due("the greatest", 1, x.undone(1, 9999, UP, UP));
            outside("rate", x, ARGUMENT, 0, 9999, rate -> x.undone(1, rate, UP, UP));
        });
        holds("`top`: the way in which it is put on top, 0 to 6", x -> {
            // 1.5 is put on top as 1 or 2, and 1 is taken out of 1 and of 2, cut up and down.
            int[] want = {1, 0, 1, 0, 1, 0, 1};
            for (int top = UP; top <= HALF_EVEN; top++) {
                due("way " + top, want[top], x.undone(1, 5000, top, UP));
            }
            outside("top", x, ARGUMENT, 0, 6, top -> x.undone(1, 0, top, UP));
        });
        holds("`out`: the way in which it is taken out, 0 to 6", x -> {
            // 1.5 is put on top as 1, and 0.67 is taken out; -1.5 as -1, and -0.67.
            int[] want = {0, -1, 0, -1, 0, 0, 0};
            int[] below = {0, 1, 1, 0, 0, 0, 0};
            for (int out = UP; out <= HALF_EVEN; out++) {
                due("way " + out, want[out], x.undone(1, 5000, DOWN, out));
                due("below 0, way " + out, below[out], x.undone(-1, 5000, DOWN, out));
            }
            outside("out", x, ARGUMENT, 0, 6, out -> x.undone(1, 0, UP, out));
        });
        holds("Returns by how much what comes is more than the amount: always -1, 0 or 1.", x -> {
            due("less", -1, x.undone(1, 5000, DOWN, DOWN));
            due("as much", 0, x.undone(1, 5000, UP, DOWN));
            due("more", 1, x.undone(1, 5000, UP, UP));
            due("less, below 0", -1, x.undone(-1, 5000, UP, UP));
            due("more, below 0", 1, x.undone(-1, 5000, DOWN, DOWN));
        });
        holds("Throws `IllegalArgumentException` if the rate or one of the ways is out of range", x -> {
            fill(x, 0);
            refused("the rate", x, ARGUMENT, () -> x.undone(0, 10000, 0, 0));
            refused("the one way", x, ARGUMENT, () -> x.undone(0, 0, 7, 0));
            refused("the other way", x, ARGUMENT, () -> x.undone(0, 0, 0, 7));
            refused("all", x, ARGUMENT, () -> x.undone(MIN, -1, -1, -1));
        });
    }

    private void redone() {
        promise(30);
        holds("`gross`: the amount, any number of the least money", x -> {
            due("the greatest", -1, x.redone(MAX, 9999, HALF_EVEN, HALF_EVEN));
            due("the greatest, up", 2, x.redone(MAX, 9999, UP, UP));
            due("the least, up", -1, x.redone(MIN, 9999, UP, UP));
            due("none, up", 0, x.redone(0, 9999, UP, UP));
        });
        holds("`rate`: 0 to 9999", x -> {
            due("the least", 0, x.redone(7, 0, UP, UP));
            due("the greatest", 1, x.redone(1, 9999, UP, UP));
            outside("rate", x, ARGUMENT, 0, 9999, rate -> x.redone(1, rate, UP, UP));
        });
        holds("`out`: the way in which it is taken out, 0 to 6", x -> {
            // 0.67 is taken out as 0 or 1, of which 0 or 1.5, cut up, is put on top.
            int[] want = {1, -1, 1, -1, 1, 1, 1};
            for (int out = UP; out <= HALF_EVEN; out++) {
                due("way " + out, want[out], x.redone(1, 5000, out, UP));
            }
            outside("out", x, ARGUMENT, 0, 6, out -> x.redone(1, 0, out, UP));
        });
        holds("`top`: the way in which it is put on top, 0 to 6", x -> {
            // 0.67 is taken out as 1, and 1.5 is put on top; -0.67 as -1, and -1.5.
            int[] want = {1, 0, 1, 0, 1, 0, 1};
            int[] below = {-1, 0, 0, -1, -1, 0, -1};
            for (int top = UP; top <= HALF_EVEN; top++) {
                due("way " + top, want[top], x.redone(1, 5000, UP, top));
                due("below 0, way " + top, below[top], x.redone(-1, 5000, UP, top));
            }
            outside("top", x, ARGUMENT, 0, 6, top -> x.redone(1, 0, UP, top));
        });
        holds("Returns by how much what comes is more than the amount: always -2 to 2.", x -> {
            due("less by two", -2, x.redone(3, 9999, DOWN, DOWN));
            due("less by one", -1, x.redone(1, 9999, DOWN, DOWN));
            due("as much", 0, x.redone(119, 1900, HALF_UP, HALF_UP));
            due("more by one", 1, x.redone(1, 9999, UP, UP));
            due("more by two", 2, x.redone(-3, 9999, CEILING, CEILING));
        });
        holds("Throws `IllegalArgumentException` if the rate or one of the ways is out of range", x -> {
            fill(x, 0);
            refused("the rate", x, ARGUMENT, () -> x.redone(0, 10000, 0, 0));
            refused("the one way", x, ARGUMENT, () -> x.redone(0, 0, 7, 0));
            refused("the other way", x, ARGUMENT, () -> x.redone(0, 0, 0, 7));
            refused("all", x, ARGUMENT, () -> x.redone(MIN, -1, -1, -1));
        });
    }
}
