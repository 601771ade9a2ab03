/** The boundary cases of the promises 31 to 33: another money. */
final class MoneyBoundaries extends Sentences {
    /** Prices, digits and places that are out of range, one at a time and all at once. */
    private static final int[][] WRONG = {{1000, 0, 0}, {1, 4, 0}, {1, 0, 4}, {0, -1, -1}};

    MoneyBoundaries(Check check, Document document) {
        super(check, document);
    }

    @Override
    void run() {
        abroad();
        abroadAnswer();
        home();
        homeAnswer();
        bound();
        boundAnswer();
    }

    private void abroad() {
        promise(31);
        holds("`bill`: 0 to 2", x -> {
            add(x, 0, 0, 1);
            add(x, 2, 0, 3);
            due("bill 0", 2, x.abroad(0, 0, 2, 0, 0));
            due("bill 2", 6, x.abroad(2, 0, 2, 0, 0));
            noSuchBill(x, bill -> x.abroad(bill, 0, 1, 0, 0));
        });
        holds("`at`: the place of the line, from 0", x -> {
            fill(x, 0);
            due("the first one", 22, x.abroad(0, 0, 2, 0, 2));
            due("the last one", 200, x.abroad(0, 8, 2, 0, 2));
            noSuchLine((y, bill, at) -> y.abroad(bill, at, 1, 0, 0));
        });
        holds("`price`: what one of the money here is worth there, 1 to 999", x -> {
            add(x, 0, 0, 1);
            due("the least", 1, x.abroad(0, 0, 1, 0, 0));
            due("the greatest", 999, x.abroad(0, 0, 999, 0, 0));
            outside("price", x, ARGUMENT, 1, 999, price -> x.abroad(0, 0, price, 0, 0));
        });
        holds("`digits`: how many of its digits are behind the point, 0 to 3", x -> {
            add(x, 0, 0, 1);
            for (int digits = 0; digits <= 3; digits++) {
                due("digits " + digits, new int[] {1000, 100, 10, 1}[digits], x.abroad(0, 0, 1, digits, 3));
            }
            outside("digits", x, ARGUMENT, 0, 3, digits -> x.abroad(0, 0, 1, digits, 0));
        });
        holds("`places`: how many the other money has, 0 to 3", x -> {
            add(x, 0, 0, 1);
            for (int places = 0; places <= 3; places++) {
                due("places " + places, new int[] {1, 10, 100, 1000}[places], x.abroad(0, 0, 1, 0, places));
            }
            outside("places", x, ARGUMENT, 0, 3, places -> x.abroad(0, 0, 1, 0, places));
        });
        holds("Throws `IndexOutOfBoundsException` if there is no such bill or line", x -> {
            noSuchBill(x, bill -> x.abroad(bill, 0, 0, 4, 4));
            noSuchLine((y, bill, at) -> y.abroad(bill, at, 0, 4, 4));
        });
        holds("Throws `IllegalArgumentException` if the price, the digits or the places are out of range", x -> {
            add(x, 0, 0, 1);
            for (int[] wrong : WRONG) {
                refused("open", x, ARGUMENT, () -> x.abroad(0, 0, wrong[0], wrong[1], wrong[2]));
            }
            x.close(0, BY_RESTS);
            for (int[] wrong : WRONG) {
                refused("closed", x, ARGUMENT, () -> x.abroad(0, 0, wrong[0], wrong[1], wrong[2]));
            }
        });
    }

    private void abroadAnswer() {
        promise(31);
        holds("Returns it, in the least money there.", x -> {
            add(x, 0, 0, 0);
            due("nothing", 0, x.abroad(0, 0, 999, 0, 3));
            Billwright y = new Billwright();
            y.cutBy(0, 3, DOWN);
            addAt(y, 0, 9999, 99999, 0, 99);
            addAt(y, 0, 9999, -99999, 0, 99);
            due("the greatest: 19798812.009 times 999", 19779013196991L, y.abroad(0, 0, 999, 0, 3));
            due("the least", -19779013196991L, y.abroad(0, 1, 999, 0, 3));
            due("the greatest for the least price", 19798, y.abroad(0, 0, 1, 3, 0));
        });
        holds("Returns it, in the least money there.", x -> {
            // 0.5 is told as 0 or 1 here, and then half of that there; cut once only it would be 0.25.
            int[] want = {1, 0, 1, 0, 1, 0, 0};
            int[] below = {-1, 0, 0, -1, -1, 0, 0};
            add(x, 0, 1, 5, -5, 25);
            for (int way = UP; way <= HALF_EVEN; way++) {
                x.cutBy(0, 0, way);
                due("what it is alone, way " + way, want[way], x.abroad(0, 0, 5, 1, 0));
                due("what it is alone, below 0, way " + way, below[way], x.abroad(0, 1, 5, 1, 0));
            }
            x.cutBy(0, 0, HALF_UP);
            due("2.5 is 3, and half of that 1.5 is 2", 2, x.abroad(0, 2, 5, 1, 0));
            x.cutBy(0, 0, HALF_DOWN);
            due("2.5 is 2, and half of that 1", 1, x.abroad(0, 2, 5, 1, 0));
        });
    }

    private void home() {
        promise(32);
        holds("`bill`: 0 to 2", x -> {
            add(x, 0, 0, 1);
            add(x, 2, 0, 2);
            due("bill 0: 0.3 is 0 there", -100, x.home(0, 0, 3, 1, 0));
            due("bill 2: 0.6 is 1 there, and 3.33 here", 133, x.home(2, 0, 3, 1, 0));
            noSuchBill(x, bill -> x.home(bill, 0, 1, 0, 0));
        });
        holds("`at`: the place of the line, from 0", x -> {
            fill(x, 0);
            due("the first one", -11, x.home(0, 0, 1, 0, 0));
            due("the line ahead of the last one: 0.89", 11, x.home(0, 7, 1, 0, 0));
            due("the last one", 0, x.home(0, 8, 1, 0, 0));
            noSuchLine((y, bill, at) -> y.home(bill, at, 1, 0, 0));
        });
        holds("`price`: what one of the money here is worth there, 1 to 999", x -> {
            add(x, 0, 2, 149);
            due("the least: 1.49 is 1", -49, x.home(0, 0, 1, 0, 0));
            due("the greatest: 1.49 is 1489 there", 0, x.home(0, 0, 999, 0, 0));
            outside("price", x, ARGUMENT, 1, 999, price -> x.home(0, 0, price, 0, 0));
        });
        holds("`digits`: how many of its digits are behind the point, 0 to 3", x -> {
            add(x, 0, 2, 149);
            for (int digits = 0; digits <= 3; digits++) {
                due("digits " + digits, new int[] {-49, -149, -149, -149}[digits], x.home(0, 0, 1, digits, 0));
                due("digits " + digits + ", price 999", new int[] {0, 0, 1, -49}[digits],
                        x.home(0, 0, 999, digits, 0));
            }
            outside("digits", x, ARGUMENT, 0, 3, digits -> x.home(0, 0, 1, digits, 0));
        });
        holds("`places`: how many the other money has, 0 to 3", x -> {
            add(x, 0, 2, 149);
            for (int places = 0; places <= 3; places++) {
                due("places " + places, new int[] {-49, 1, 0, 0}[places], x.home(0, 0, 1, 0, places));
            }
            outside("places", x, ARGUMENT, 0, 3, places -> x.home(0, 0, 1, 0, places));
        });
        holds("Throws `IndexOutOfBoundsException` if there is no such bill or line", x -> {
            noSuchBill(x, bill -> x.home(bill, 0, 0, 4, 4));
            noSuchLine((y, bill, at) -> y.home(bill, at, 0, 4, 4));
        });
        holds("Throws `IllegalArgumentException` if the price, the digits or the places are out of range", x -> {
            add(x, 0, 0, 1);
            for (int[] wrong : WRONG) {
                refused("open", x, ARGUMENT, () -> x.home(0, 0, wrong[0], wrong[1], wrong[2]));
            }
            x.close(0, BY_RESTS);
            for (int[] wrong : WRONG) {
                refused("closed", x, ARGUMENT, () -> x.home(0, 0, wrong[0], wrong[1], wrong[2]));
            }
        });
    }

    private void homeAnswer() {
        promise(32);
        holds("Returns by how much, below 0 if it is less.", x -> {
            add(x, 0, 0, 0);
            due("nothing", 0, x.home(0, 0, 1, 3, 0));
            x.cutBy(1, 3, UP);
            add(x, 1, 3, 1, -1);
            due("the most: 0.001 is 1 there, and 1000.000 here", 999999, x.home(1, 0, 1, 3, 0));
            due("the most, below 0", -999999, x.home(1, 1, 1, 3, 0));
            x.cutBy(1, 3, DOWN);
            add(x, 1, 0, 999, -999);
            due("the least: 999 is 0 there", -999000, x.home(1, 2, 1, 3, 0));
            due("the least, below 0", 999000, x.home(1, 3, 1, 3, 0));
        });
        holds("Returns by how much, below 0 if it is less.", x -> {
            x.cutBy(0, 3, HALF_EVEN);
            addAt(x, 0, 9999, 99999, 0, 99);
            addAt(x, 0, 9999, -99999, 0, 99);
            due("the greatest line, 19798812.01, which is 19798.81201 there", 0, x.home(0, 0, 1, 0, 3));
            due("the greatest line for the least money", 187990, x.home(0, 0, 1, 3, 0));
            due("the least line for the least money", -187990, x.home(0, 1, 1, 3, 0));
            due("the greatest line for the dearest money", 0, x.home(0, 0, 999, 0, 3));
        });
    }

    private void bound() {
        promise(33);
        holds("`bill`: 0 to 2", x -> {
            x.cutBy(0, 0, UP);
            x.cutBy(2, 1, UP);
            due("bill 0", 1, x.bound(0, 1, 0, 0));
            due("bill 1", 50, x.bound(1, 1, 0, 0));
            due("bill 2", 10, x.bound(2, 1, 0, 0));
            noSuchBill(x, bill -> x.bound(bill, 1, 0, 0));
        });
        holds("`price`: what one of the money here is worth there, 1 to 999", x -> {
            x.cutBy(0, 3, UP);
            due("the least", 1000, x.bound(0, 1, 0, 0));
            due("the greatest", 2, x.bound(0, 999, 0, 0));
            outside("price", x, ARGUMENT, 1, 999, price -> x.bound(0, price, 0, 0));
        });
        holds("`digits`: how many of its digits are behind the point, 0 to 3", x -> {
            x.cutBy(0, 0, UP);
            for (int digits = 0; digits <= 3; digits++) {
                due("digits " + digits, new int[] {1, 10, 100, 1000}[digits], x.bound(0, 1, digits, 0));
            }
            outside("digits", x, ARGUMENT, 0, 3, digits -> x.bound(0, 1, digits, 0));
        });
        holds("`places`: how many the other money has, 0 to 3", x -> {
            x.cutBy(0, 3, UP);
            for (int places = 0; places <= 3; places++) {
                due("places " + places, new int[] {1000, 100, 10, 1}[places], x.bound(0, 1, 0, places));
            }
            outside("places", x, ARGUMENT, 0, 3, places -> x.bound(0, 1, 0, places));
        });
        holds("Returns it.", x -> {
            x.cutBy(0, 3, DOWN);
            due("the greatest", 1000000, x.bound(0, 1, 3, 0));
            x.cutBy(0, 0, DOWN);
            due("the least", 1, x.bound(0, 999, 0, 3));
            x.cutBy(0, 3, HALF_DOWN);
            due("the greatest by halves", 500000, x.bound(0, 1, 3, 0));
            x.cutBy(0, 0, HALF_DOWN);
            due("the least by halves", 0, x.bound(0, 999, 0, 3));
            x.close(0, BY_RESTS);
            due("closed", 0, x.bound(0, 999, 0, 3));
        });
        holds("Throws `IndexOutOfBoundsException` if there is no such bill", x -> {
            fill(x, 0);
            noSuchBill(x, bill -> x.bound(bill, 0, 4, 4));
        });
        holds("Throws `IllegalArgumentException` if the price, the digits or the places are out of range", x -> {
            for (int[] wrong : WRONG) {
                refused("open", x, ARGUMENT, () -> x.bound(0, wrong[0], wrong[1], wrong[2]));
            }
            x.close(0, BY_RESTS);
            for (int[] wrong : WRONG) {
                refused("closed", x, ARGUMENT, () -> x.bound(0, wrong[0], wrong[1], wrong[2]));
            }
        });
    }

    private void boundAnswer() {
        promise(33);
        holds("with x, what the least money there is worth in the least money here, this is x, cut to the ceiling;",
                x -> {
            for (int way = UP; way <= FLOOR; way++) {
                x.cutBy(0, 2, way);
                due("just above 1, way " + way, 2, x.bound(0, 99, 2, 2));
                due("1, way " + way, 1, x.bound(0, 100, 2, 2));
                due("just below 1, way " + way, 1, x.bound(0, 101, 2, 2));
                due("2, way " + way, 2, x.bound(0, 5, 1, 2));
                due("just above 2, way " + way, 3, x.bound(0, 499, 3, 2));
            }
        });
        holds("if the way is by halves, half of x + 1, cut to the floor.", x -> {
            for (int way = HALF_UP; way <= HALF_EVEN; way++) {
                x.cutBy(0, 2, way);
                due("just above 1, way " + way, 1, x.bound(0, 99, 2, 2));
                due("1, way " + way, 1, x.bound(0, 100, 2, 2));
                due("just below 1, way " + way, 0, x.bound(0, 101, 2, 2));
                due("2, way " + way, 1, x.bound(0, 5, 1, 2));
                due("just below 3, way " + way, 1, x.bound(0, 334, 3, 2));
                due("just above 3, way " + way, 2, x.bound(0, 333, 3, 2));
            }
            x.cutBy(0, 3, HALF_EVEN);
            due("5, of which and 1 the half is 3", 3, x.bound(0, 2, 0, 2));
        });
        holds("Tells a number than which home() is never more, without its sign, for any line:", x -> {
            x.cutBy(0, 1, UP);
            add(x, 0, 1, 991, -991);
            // 99.1 is 99.0009 there, told as 100, which are 100.1001 here, told as 100.2.
            due("as much, cut up", 11, x.home(0, 0, 999, 3, 0));
            due("as much, cut up, below 0", -11, x.home(0, 1, 999, 3, 0));
            due("as much may be, cut up", 11, x.bound(0, 999, 3, 0));
            x.cutBy(0, 1, HALF_UP);
            add(x, 0, 1, 5);
            due("as much, by halves: 0.5 is 1 there", 5, x.home(0, 2, 1, 0, 0));
            due("as much may be, by halves", 5, x.bound(0, 1, 0, 0));
        });
    }
}
