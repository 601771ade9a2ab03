/** The boundary cases of the promises 1 to 12: bills. */
final class BillBoundaries extends Sentences {
    BillBoundaries(Check check, Document document) {
        super(check, document);
    }

    @Override
    void run() {
        newObject();
        cutBy();
        cutByRefused();
        way();
        line();
        lineAnswer();
        lineRefused();
        rate();
        rateRefused();
        remove();
        move();
        moveRefused();
        sort();
        split();
        splitRefused();
        copy();
        copyRefused();
        lines();
        isSame();
    }

    private void newObject() {
        promise(1);
        holds("Creates three open bills without lines.", x -> {
            for (int bill = 0; bill <= 2; bill++) {
                int which = bill;
                due("lines of " + bill, 0, x.lines(bill));
                refused("open of " + bill, x, STATE, () -> x.open(which));
                due("a line of " + bill, 1, x.line(bill, 0, 1, 0, 1));
            }
            refused("one bill more", x, INDEX, () -> x.lines(3));
        });
    }

    private void cutBy() {
        promise(2);
        holds("`bill`: 0 to 2", x -> {
            for (int bill = 0; bill <= 2; bill++) {
                x.cutBy(bill, 0, bill);
            }
            due("bill 0", 'U', x.way(0));
            due("bill 1", 'D', x.way(1));
            due("bill 2", 'C', x.way(2));
            noSuchBill(x, bill -> x.cutBy(bill, 0, 0));
        });
        holds("`places`: 0 to 3", x -> {
            add(x, 0, 4, 12345);
            x.cutBy(0, 0, DOWN);
            due("no place", 1, x.alone(0, 0));
            x.cutBy(0, 3, DOWN);
            due("three places", 1234, x.alone(0, 0));
            outside("places", x, ARGUMENT, 0, 3, places -> x.cutBy(0, places, DOWN));
        });
        holds("`way`: 0 to 6", x -> {
            x.cutBy(0, 2, 0);
            due("the least", 'U', x.way(0));
            x.cutBy(0, 2, 6);
            due("the greatest", 'e', x.way(0));
            outside("way", x, ARGUMENT, 0, 6, way -> x.cutBy(0, 2, way));
        });
        holds("Returns how many of its lines are another amount of money, told alone, than before.", x -> {
            due("none of none", 0, x.cutBy(0, 0, UP));
            fill(x, 1);
            due("none of nine", 0, x.cutBy(1, 2, HALF_EVEN));
            due("those five that had been cut up", 5, x.cutBy(1, 2, DOWN));
            due("all of nine", 9, x.cutBy(1, 3, DOWN));
            fillWith(x, 2, 0, 7);
            due("7.00 is the same money as 7.000", 0, x.cutBy(2, 3, UP));
            due("7.000 is the same money as 7", 0, x.cutBy(2, 0, DOWN));
        });
    }

    private void cutByRefused() {
        promise(2);
        holds("Throws `IndexOutOfBoundsException` if there is no such bill", x -> {
            fill(x, 0);
            x.close(1, BY_RESTS);
            noSuchBill(x, bill -> x.cutBy(bill, 0, 0));
            noSuchBill(x, bill -> x.cutBy(bill, 4, 7));
        });
        holds("Throws `IllegalArgumentException` if the places or the way are out of range", x -> {
            fill(x, 0);
            fill(x, 1);
            x.close(1, CARRIED);
            for (int bill : new int[] {0, 1}) {
                refused("the places", x, ARGUMENT, () -> x.cutBy(bill, 4, 0));
                refused("the way", x, ARGUMENT, () -> x.cutBy(bill, 0, 7));
                refused("both", x, ARGUMENT, () -> x.cutBy(bill, -1, -1));
            }
        });
        holds("Throws `IllegalStateException` if the bill is closed", x -> {
            fill(x, 0);
            x.close(0, BY_RESTS);
            refused("another way", x, STATE, () -> x.cutBy(0, 0, UP));
            refused("the same", x, STATE, () -> x.cutBy(0, 2, HALF_EVEN));
            x.close(1, CARRIED);
            refused("without lines", x, STATE, () -> x.cutBy(1, 0, UP));
            due("another bill", 0, x.cutBy(2, 0, UP));
            x.open(1);
            due("opened", 0, x.cutBy(1, 0, UP));
        });
    }

    private void way() {
        promise(3);
        holds("`bill`: 0 to 2", x -> {
            x.cutBy(2, 0, UP);
            due("bill 0", 'e', x.way(0));
            due("bill 2", 'U', x.way(2));
            noSuchBill(x, bill -> x.way(bill));
        });
        holds("Returns 'U' up, 'D' down, 'C' to the ceiling, 'F' to the floor, 'u', 'd', 'e' by halves up, down, to the"
                + " even one.", x -> {
            for (int way = UP; way <= HALF_EVEN; way++) {
                x.cutBy(1, 0, way);
                due("way " + way, "UDCFude".charAt(way), x.way(1));
                x.close(1, BY_RESTS);
                due("way " + way + ", closed", "UDCFude".charAt(way), x.way(1));
                x.open(1);
            }
        });
        holds("Throws `IndexOutOfBoundsException` if there is no such bill", x -> {
            fill(x, 0);
            noSuchBill(x, bill -> x.way(bill));
        });
    }

    private void line() {
        promise(4);
        holds("`bill`: 0 to 2", x -> {
            x.line(0, 0, 1, 4, 1);
            x.line(2, 0, 2, 4, 1);
            dueLines("bill 0", x, 0, 1);
            dueLines("bill 1", x, 1);
            dueLines("bill 2", x, 2, 2);
            noSuchBill(x, bill -> x.line(bill, 0, 1, 0, 1));
        });
        holds("`at`: the place, 0 to the number of lines", x -> {
            outside("place of none,", x, INDEX, 0, 0, at -> x.line(0, at, 1, 0, 1));
            for (int i = 1; i <= 4; i++) {
                x.line(0, 0, i, 4, 1);
                x.line(0, x.lines(0), 10 * i, 4, 1);
            }
            outside("place of eight,", x, INDEX, 0, 8, at -> x.line(0, at, 1, 0, 1));
            dueLines("ahead of all, and behind all", x, 0, 4, 3, 2, 1, 10, 20, 30, 40);
        });
        holds("`price`: -99999 to 99999", x -> {
            add(x, 0, 4, -99999, 99999, 0);
            dueLines("the least, the greatest, and none", x, 0, -99999, 99999, 0);
            outside("price", x, ARGUMENT, -99999, 99999, price -> x.line(0, 0, price, 0, 1));
        });
        holds("`digits`: how many of its digits are behind the point, 0 to 4", x -> {
            for (int digits = 0; digits <= 4; digits++) {
                add(x, 0, digits, 1);
            }
            dueLines("none to four", x, 0, 10000, 1000, 100, 10, 1);
            outside("digits", x, ARGUMENT, 0, 4, digits -> x.line(0, 0, 1, digits, 1));
        });
        holds("`count`: -99 to 99", x -> {
            x.line(0, 0, 1, 4, -99);
            x.line(0, 1, 1, 4, 99);
            x.line(0, 2, 1, 4, 0);
            dueLines("the least, the greatest, and none", x, 0, -99, 99, 0);
            outside("count", x, ARGUMENT, -99, 99, count -> x.line(0, 0, 1, 0, count));
        });
    }

    private void lineAnswer() {
        promise(4);
        holds("Puts a line, with the rate 0, ahead of the one at a place, or behind all.", x -> {
            add(x, 0, 4, 1, 2, 3, 4, 5, 6, 7);
            x.line(0, 6, 8, 4, 1);
            x.line(0, 8, 9, 4, 1);
            dueLines("ahead of the last, and behind all", x, 0, 1, 2, 3, 4, 5, 6, 8, 7, 9);
            due("the rate", 0, x.rate(0, 6, 1));
        });
        holds("Returns how many lines the bill has then.", x -> {
            for (int lines = 1; lines <= 9; lines++) {
                due("line " + lines, lines, x.line(1, 0, 1, 0, 1));
            }
            due("another bill", 1, x.line(0, 0, 1, 0, 1));
        });
    }

    private void lineRefused() {
        promise(4);
        holds("Throws `IndexOutOfBoundsException` if there is no such bill, or no such place", x -> {
            fill(x, 0);
            x.close(1, BY_RESTS);
            noSuchBill(x, bill -> x.line(bill, 0, 1, 0, 1));
            noSuchBill(x, bill -> x.line(bill, 0, 100000, 5, 100));
            outside("place of the full bill,", x, INDEX, 0, 9, at -> x.line(0, at, 100000, 0, 0));
            outside("place of the closed bill,", x, INDEX, 0, 0, at -> x.line(1, at, 0, 5, 0));
            outside("place of the empty bill,", x, INDEX, 0, 0, at -> x.line(2, at, 0, 0, 100));
        });
        holds("Throws `IllegalArgumentException` if the price, the digits or the count are out of range", x -> {
            fill(x, 0);
            x.close(1, BY_RESTS);
            for (int bill = 0; bill <= 2; bill++) {
                int which = bill;
                refused("the price", x, ARGUMENT, () -> x.line(which, 0, 100000, 0, 1));
                refused("the digits", x, ARGUMENT, () -> x.line(which, 0, 1, 5, 1));
                refused("the count", x, ARGUMENT, () -> x.line(which, 0, 1, 0, 100));
                refused("all", x, ARGUMENT, () -> x.line(which, 0, -100000, -1, -100));
            }
        });
        holds("Throws `IllegalStateException` if the bill is closed, or has 9 lines", x -> {
            fill(x, 0);
            refused("ahead of nine", x, STATE, () -> x.line(0, 0, 1, 0, 1));
            refused("behind nine", x, STATE, () -> x.line(0, 9, 1, 0, 1));
            x.close(0, BY_RESTS);
            refused("nine, closed", x, STATE, () -> x.line(0, 9, 1, 0, 1));
            x.open(0);
            x.remove(0, 0);
            due("eight, opened", 9, x.line(0, 8, 1, 0, 1));
            x.close(1, CARRIED);
            refused("closed without lines", x, STATE, () -> x.line(1, 0, 1, 0, 1));
        });
    }

    private void rate() {
        promise(5);
        holds("`bill`: 0 to 2", x -> {
            for (int bill = 0; bill <= 2; bill++) {
                add(x, bill, 0, 1);
                x.rate(bill, 0, bill + 1);
            }
            dueLines("bill 0", x, 0, 10001);
            dueLines("bill 2", x, 2, 10003);
            noSuchBill(x, bill -> x.rate(bill, 0, 0));
        });
        holds("`at`: the place of the line, from 0", x -> {
            fillWith(x, 0, 0, 1);
            x.rate(0, 0, 1);
            x.rate(0, 8, 2);
            dueLines("the first and the last one", x, 0, 10001, 10000, 10000, 10000, 10000, 10000, 10000, 10000, 10002);
            noSuchLine((y, bill, at) -> y.rate(bill, at, 1));
        });
        holds("`rate`: -5000 to 9999 hundredths of a per cent", x -> {
            add(x, 0, 0, 1, 1);
            x.rate(0, 0, -5000);
            x.rate(0, 1, 9999);
            dueLines("the least, and the greatest", x, 0, 5000, 19999);
            outside("rate", x, ARGUMENT, -5000, 9999, rate -> x.rate(0, 0, rate));
        });
        holds("Returns the rate that it had.", x -> {
            add(x, 0, 0, 1);
            due("of a new line", 0, x.rate(0, 0, -5000));
            due("the least", -5000, x.rate(0, 0, 9999));
            due("the greatest", 9999, x.rate(0, 0, 9999));
            refused("one that is out of range", x, ARGUMENT, () -> x.rate(0, 0, 10000));
            due("not the one that was refused", 9999, x.rate(0, 0, 0));
        });
    }

    private void rateRefused() {
        promise(5);
        holds("Throws `IndexOutOfBoundsException` if there is no such bill or line", x -> {
            add(x, 0, 0, 1);
            noSuchBill(x, bill -> x.rate(bill, 0, 10000));
            noSuchLine((y, bill, at) -> y.rate(bill, at, 10000));
        });
        holds("Throws `IllegalArgumentException` if the rate is out of range", x -> {
            add(x, 0, 0, 1);
            add(x, 1, 0, 1);
            x.close(1, BY_RESTS);
            outside("rate", x, ARGUMENT, -5000, 9999, rate -> x.rate(0, 0, rate));
            outside("rate of a closed bill,", x, ARGUMENT, -5000, 9999, rate -> x.rate(1, 0, rate));
        });
        holds("Throws `IllegalStateException` if the bill is closed", x -> {
            fill(x, 0);
            x.close(0, CARRIED);
            refused("another rate", x, STATE, () -> x.rate(0, 0, 1));
            refused("the same", x, STATE, () -> x.rate(0, 8, 0));
            x.open(0);
            due("opened", 0, x.rate(0, 0, 1));
        });
    }

    private void remove() {
        promise(6);
        holds("`bill`: 0 to 2", x -> {
            for (int bill = 0; bill <= 2; bill++) {
                add(x, bill, 0, 1, 2);
            }
            x.remove(0, 0);
            x.remove(2, 1);
            dueLines("bill 0", x, 0, 20000);
            dueLines("bill 1", x, 1, 10000, 20000);
            dueLines("bill 2", x, 2, 10000);
            noSuchBill(x, bill -> x.remove(bill, 0));
        });
        holds("`at`: the place of the line, from 0", x -> {
            fill(x, 0);
            x.remove(0, 8);
            x.remove(0, 0);
            dueLines("without the first and the last one", x, 0, 2222, 3333, 4444, 5555, 6666, 7777, 8888);
            noSuchLine((y, bill, at) -> y.remove(bill, at));
        });
        holds("Returns how many lines are left.", x -> {
            fill(x, 1);
            for (int left = 8; left >= 0; left--) {
                due("left", left, x.remove(1, left / 2));
            }
            refused("none left", x, INDEX, () -> x.remove(1, 0));
        });
        holds("Throws `IndexOutOfBoundsException` if there is no such bill or line", x -> {
            fill(x, 0);
            x.close(0, BY_RESTS);
            noSuchBill(x, bill -> x.remove(bill, 0));
            outside("line", x, INDEX, 0, 8, at -> x.remove(0, at));
            noSuchLine((y, bill, at) -> y.remove(bill, at));
        });
        holds("Throws `IllegalStateException` if the bill is closed", x -> {
            fill(x, 0);
            x.close(0, BY_RESTS);
            refused("the first one", x, STATE, () -> x.remove(0, 0));
            refused("the last one", x, STATE, () -> x.remove(0, 8));
            x.open(0);
            due("opened", 8, x.remove(0, 8));
        });
    }

    private void move() {
        promise(7);
        holds("`bill`: 0 to 2", x -> {
            for (int bill = 0; bill <= 2; bill++) {
                add(x, bill, 0, 1, 2);
            }
            x.move(0, 0, 1);
            x.move(2, 0, 1);
            dueLines("bill 0", x, 0, 20000, 10000);
            dueLines("bill 1", x, 1, 10000, 20000);
            dueLines("bill 2", x, 2, 20000, 10000);
            noSuchBill(x, bill -> x.move(bill, 0, 0));
        });
        holds("`from`: the place of the line, from 0", x -> {
            fill(x, 0);
            x.move(0, 0, 1);
            x.move(0, 8, 7);
            dueLines("from the first and the last one", x, 0, 2222, 1111, 3333, 4444, 5555, 6666, 7777, 9999, 8888);
            noSuchLine((y, bill, at) -> y.move(bill, at, 0));
        });
        holds("`to`: its place then", x -> {
            fill(x, 0);
            x.move(0, 1, 0);
            x.move(0, 7, 8);
            dueLines("to the first and the last one", x, 0, 2222, 1111, 3333, 4444, 5555, 6666, 7777, 9999, 8888);
            noSuchLine((y, bill, at) -> y.move(bill, 0, at));
        });
        holds("Moves a line; those between its places move by one.", x -> {
            fill(x, 0);
            x.move(0, 0, 8);
            dueLines("over all", x, 0, 2222, 3333, 4444, 5555, 6666, 7777, 8888, 9999, 1111);
            x.move(0, 8, 0);
            dueLines("over all, back", x, 0, 1111, 2222, 3333, 4444, 5555, 6666, 7777, 8888, 9999);
            x.move(0, 2, 4);
            dueLines("over two", x, 0, 1111, 2222, 4444, 5555, 3333, 6666, 7777, 8888, 9999);
            x.move(0, 4, 4);
            dueLines("over none", x, 0, 1111, 2222, 4444, 5555, 3333, 6666, 7777, 8888, 9999);
        });
        holds("Returns how many lines stand elsewhere then.", x -> {
            fill(x, 0);
            due("none of nine", 0, x.move(0, 8, 8));
            due("all of nine", 9, x.move(0, 0, 8));
            due("all of nine, back", 9, x.move(0, 8, 0));
            due("two", 2, x.move(0, 4, 5));
            due("two, back", 2, x.move(0, 5, 4));
            add(x, 1, 0, 1);
            due("the only one", 0, x.move(1, 0, 0));
        });
    }

    private void moveRefused() {
        promise(7);
        holds("Throws `IndexOutOfBoundsException` if there is no such bill, or no line at one of the places", x -> {
            fill(x, 0);
            x.close(0, BY_RESTS);
            noSuchBill(x, bill -> x.move(bill, 0, 1));
            noSuchLine((y, bill, at) -> y.move(bill, at, 0));
            noSuchLine((y, bill, at) -> y.move(bill, 0, at));
            noSuchLine((y, bill, at) -> y.move(bill, at, at));
            refused("from the first to behind the last one", x, INDEX, () -> x.move(0, 0, 9));
        });
        holds("Throws `IllegalStateException` if the bill is closed", x -> {
            fill(x, 0);
            x.close(0, CARRIED);
            refused("elsewhere", x, STATE, () -> x.move(0, 0, 8));
            refused("to where it stands", x, STATE, () -> x.move(0, 8, 8));
            x.open(0);
            due("opened", 2, x.move(0, 0, 1));
        });
    }

    private void sort() {
        promise(8);
        holds("`bill`: 0 to 2", x -> {
            for (int bill = 0; bill <= 2; bill++) {
                add(x, bill, 0, 2, 1);
            }
            x.sort(0);
            x.sort(2);
            dueLines("bill 0", x, 0, 10000, 20000);
            dueLines("bill 1", x, 1, 20000, 10000);
            dueLines("bill 2", x, 2, 10000, 20000);
            noSuchBill(x, bill -> x.sort(bill));
        });
        holds("Sorts the lines by their exact amounts, the least first, like ones in the order in which they stood.",
                x -> {
            addAt(x, 0, 9999, 99999, 0, 99);
            addAt(x, 0, 1, 1, 4, 1);
            addAt(x, 0, 0, 1, 4, 1);
            addAt(x, 0, 0, 0, 0, 1);
            addAt(x, 0, 0, 1, 0, 0);
            addAt(x, 0, 9999, -99999, 0, 99);
            x.sort(0);
            long[] exact = {-DEAREST, 0, 0, 10000, 10001, DEAREST};
            for (int i = 0; i < exact.length; i++) {
                due("line " + i, exact[i], x.exact(0, i));
            }
            x.remove(0, 0);
            x.remove(0, 4);
            x.remove(0, 3);
            add(x, 1, 0, 0);
            x.line(1, 1, 1, 0, 0);
            add(x, 1, 4, 1);
            due("of two like ones the one that stood ahead", true, x.isSame(0, 1));
        });
        holds("Returns how many lines stand elsewhere then.", x -> {
            due("none of none", 0, x.sort(1));
            add(x, 2, 0, 1);
            due("none of one", 0, x.sort(2));
            fill(x, 0);
            due("none of nine", 0, x.sort(0));
            x.move(0, 8, 0);
            due("all of nine", 9, x.sort(0));
            add(x, 1, 0, 9, 8, 7, 6, 5, 4, 3, 2, 1);
            due("all but the one in the middle", 8, x.sort(1));
            dueLines("all the other way round", x, 1, 10000, 20000, 30000, 40000, 50000, 60000, 70000, 80000, 90000);
            x.remove(2, 0);
            fillWith(x, 2, 0, 1);
            due("none of nine like ones", 0, x.sort(2));
        });
        holds("Throws `IndexOutOfBoundsException` if there is no such bill", x -> {
            x.close(0, BY_RESTS);
            noSuchBill(x, bill -> x.sort(bill));
        });
        holds("Throws `IllegalStateException` if the bill is closed", x -> {
            add(x, 0, 0, 2, 1);
            x.close(0, BY_RESTS);
            x.close(1, CARRIED);
            refused("out of order", x, STATE, () -> x.sort(0));
            refused("without lines", x, STATE, () -> x.sort(1));
            x.open(0);
            due("opened", 2, x.sort(0));
        });
    }

    private void split() {
        promise(9);
        holds("`bill`: 0 to 2", x -> {
            add(x, 0, 0, 1, 2);
            due("from bill 0", 1, x.split(0, 1, 2));
            due("from bill 2", 1, x.split(2, 0, 1));
            dueLines("bill 0", x, 0, 10000);
            dueLines("bill 1", x, 1, 20000);
            noSuchBill(x, bill -> x.split(bill, 0, 1));
        });
        holds("`at`: the place, 0 to the number of lines", x -> {
            fill(x, 0);
            due("none", 0, x.split(0, 9, 1));
            due("the last one", 1, x.split(0, 8, 1));
            due("all others", 9, x.split(0, 0, 1));
            due("of none, none", 9, x.split(0, 0, 1));
            outside("place of nine,", x, INDEX, 0, 9, at -> x.split(1, at, 0));
            outside("place of none,", x, INDEX, 0, 0, at -> x.split(0, at, 1));
        });
        holds("`to`: the other bill, 0 to 2", x -> {
            add(x, 1, 0, 1, 2);
            x.split(1, 1, 0);
            x.split(1, 0, 2);
            dueLines("to bill 0", x, 0, 20000);
            dueLines("to bill 2", x, 2, 10000);
            outside("to", x, INDEX, 0, 2, to -> x.split(0, 0, to));
        });
        holds("Moves the lines from a place on, in their order, behind those of another bill.", x -> {
            add(x, 0, 4, 1, 2, 3, 4, 5, 6, 7);
            add(x, 1, 4, 8, 9, 10, 11);
            x.split(0, 2, 1);
            dueLines("those that stay", x, 0, 1, 2);
            dueLines("those that are moved", x, 1, 8, 9, 10, 11, 3, 4, 5, 6, 7);
        });
        holds("Returns how many lines that one has then.", x -> {
            due("none and none", 0, x.split(0, 0, 1));
            fill(x, 0);
            due("none and nine", 9, x.split(0, 0, 1));
            due("nine and none", 9, x.split(2, 0, 1));
            due("six to none", 6, x.split(1, 3, 0));
        });
    }

    private void splitRefused() {
        promise(9);
        holds("Throws `IndexOutOfBoundsException` if there is no such bill, for either, or no such place", x -> {
            add(x, 0, 0, 1, 2);
            fill(x, 1);
            x.close(0, BY_RESTS);
            noSuchBill(x, bill -> x.split(bill, 0, 0));
            noSuchBill(x, bill -> x.split(0, 0, bill));
            noSuchBill(x, bill -> x.split(bill, 0, bill));
            outside("place, closed and the same", x, INDEX, 0, 2, at -> x.split(0, at, 0));
            outside("place, to a full bill", x, INDEX, 0, 0, at -> x.split(2, at, 1));
            outside("place, to a closed bill", x, INDEX, 0, 9, at -> x.split(1, at, 0));
        });
        holds("Throws `IllegalArgumentException` if it is the same bill", x -> {
            add(x, 0, 0, 1, 2);
            fill(x, 1);
            refused("all", x, ARGUMENT, () -> x.split(0, 0, 0));
            refused("none", x, ARGUMENT, () -> x.split(0, 2, 0));
            refused("full", x, ARGUMENT, () -> x.split(1, 0, 1));
            refused("without lines", x, ARGUMENT, () -> x.split(2, 0, 2));
            x.close(0, BY_RESTS);
            refused("closed", x, ARGUMENT, () -> x.split(0, 0, 0));
        });
        holds("Throws `IllegalStateException` if one of the bills is closed, or the other one would have more than 9"
                + " lines", x -> {
            fill(x, 0);
            add(x, 1, 4, 1);
            refused("ten lines", x, STATE, () -> x.split(0, 0, 1));
            refused("ten lines, by one", x, STATE, () -> x.split(1, 0, 0));
            due("nine lines, and none more", 9, x.split(1, 1, 0));
            due("nine lines", 9, x.split(0, 1, 1));
            x.close(0, BY_RESTS);
            refused("the one is closed", x, STATE, () -> x.split(0, 0, 2));
            refused("the one is closed, none moved", x, STATE, () -> x.split(0, 1, 2));
            refused("the other one is closed", x, STATE, () -> x.split(1, 8, 0));
            refused("the other one is closed, none moved", x, STATE, () -> x.split(2, 0, 0));
            x.close(2, CARRIED);
            refused("both are closed", x, STATE, () -> x.split(0, 0, 2));
            x.open(0);
            x.open(2);
            due("both are opened", 1, x.split(0, 0, 2));
        });
    }

    private void copy() {
        promise(10);
        holds("`bill`: the other one, 0 to 2", x -> {
            add(x, 0, 0, 1);
            add(x, 2, 0, 1, 2);
            due("bill 0", 1, x.copy(0, 1));
            due("bill 2", 2, x.copy(2, 1));
            noSuchBill(x, bill -> x.copy(bill, 1));
        });
        holds("`to`: 0 to 2", x -> {
            add(x, 1, 0, 1);
            due("to bill 0", 1, x.copy(1, 0));
            due("to bill 2", 1, x.copy(1, 2));
            dueLines("bill 0", x, 0, 10000);
            dueLines("bill 2", x, 2, 10000);
            outside("to", x, INDEX, 0, 2, to -> x.copy(1, to));
        });
        holds("Gives a bill the places, the way and the lines of another one, in place of its own; told amounts are not"
                + " taken over.", x -> {
            fill(x, 0);
            x.cutBy(0, 3, UP);
            x.close(0, CARRIED);
            fillWith(x, 1, 0, 7);
            due("nine for nine", 9, x.copy(0, 1));
            due("the places", 112, x.alone(1, 0));
            due("the places, in another money", 1000, x.bound(1, 1, 0, 0));
            due("the way", 'U', x.way(1));
            due("the lines", true, x.isSame(0, 1));
            refused("told amounts", x, STATE, () -> x.told(1, 0));
            due("those of the other one stay", 112, x.told(0, 0));
            due("none for nine", 0, x.copy(2, 1));
            due("the way of a bill without lines", 'e', x.way(1));
        });
        holds("For a bill and itself nothing changes.", x -> {
            fill(x, 0);
            x.cutBy(0, 3, UP);
            long before = x.checksum();
            due("nine lines", 9, x.copy(0, 0));
            due("no lines", 0, x.copy(2, 2));
            due("nothing changes", before, x.checksum());
            due("its lines stay", 1111 * 10000L, x.exact(0, 0));
        });
    }

    private void copyRefused() {
        promise(10);
        holds("Returns how many lines it has then.", x -> {
            due("none for none", 0, x.copy(1, 0));
            fill(x, 0);
            due("nine for none", 9, x.copy(0, 1));
            add(x, 2, 0, 1);
            due("one for nine", 1, x.copy(2, 1));
        });
        holds("Throws `IndexOutOfBoundsException` if there is no such bill, for either", x -> {
            fill(x, 0);
            x.close(0, BY_RESTS);
            noSuchBill(x, bill -> x.copy(bill, 0));
            noSuchBill(x, bill -> x.copy(0, bill));
            noSuchBill(x, bill -> x.copy(bill, bill));
        });
        holds("Throws `IllegalStateException` if the bill that is given them is closed", x -> {
            fill(x, 0);
            add(x, 1, 0, 1);
            x.close(0, BY_RESTS);
            x.close(2, BY_RESTS);
            refused("another one's", x, STATE, () -> x.copy(1, 0));
            refused("its own", x, STATE, () -> x.copy(0, 0));
            refused("of two without lines", x, STATE, () -> x.copy(2, 2));
            due("the other one is closed", 9, x.copy(0, 1));
            x.open(0);
            due("opened", 0, x.copy(2, 0));
        });
    }

    private void lines() {
        promise(11);
        holds("`bill`: 0 to 2", x -> {
            add(x, 0, 0, 1);
            add(x, 2, 0, 1, 2, 3);
            due("bill 0", 1, x.lines(0));
            due("bill 1", 0, x.lines(1));
            due("bill 2", 3, x.lines(2));
            noSuchBill(x, bill -> x.lines(bill));
        });
        holds("Returns how many.", x -> {
            due("none", 0, x.lines(0));
            fill(x, 0);
            due("nine", 9, x.lines(0));
            refused("a tenth", x, STATE, () -> x.line(0, 0, 1, 0, 1));
            due("nine still", 9, x.lines(0));
            x.close(0, CARRIED);
            due("closed", 9, x.lines(0));
        });
        holds("Throws `IndexOutOfBoundsException` if there is no such bill", x -> {
            fill(x, 2);
            noSuchBill(x, bill -> x.lines(bill));
        });
    }

    private void isSame() {
        promise(12);
        holds("`bill`: 0 to 2", x -> {
            add(x, 0, 0, 1);
            due("bill 0", false, x.isSame(0, 1));
            due("bill 2", true, x.isSame(2, 1));
            noSuchBill(x, bill -> x.isSame(bill, 1) ? 1 : 0);
        });
        holds("`other`: 0 to 2", x -> {
            add(x, 0, 0, 1);
            due("bill 0", false, x.isSame(1, 0));
            due("bill 2", true, x.isSame(1, 2));
            outside("other", x, INDEX, 0, 2, other -> x.isSame(1, other) ? 1 : 0);
        });
        holds("lines with prices of the same size, however many digits are behind the point, the same count and the"
                + " same rate.", x -> {
            add(x, 0, 4, 10000);
            int[] prices = {1, 10, 100, 1000, 10000};
            for (int digits = 0; digits <= 4; digits++) {
                x.line(1, 0, prices[digits], digits, 1);
                due("digits " + digits, true, x.isSame(0, 1));
                x.remove(1, 0);
            }
            dueUnlike(x, "the least more", 0, 10001, 4, 1);
            dueUnlike(x, "the least less", 0, 9999, 4, 1);
            dueUnlike(x, "below 0", 0, -1, 0, 1);
            dueUnlike(x, "the same number with other digits", 0, 10000, 3, 1);
            dueUnlike(x, "another count", 0, 1, 0, 2);
            dueUnlike(x, "another rate", 1, 1, 0, 1);
            dueUnlike(x, "a like amount, of another count", 0, 5000, 4, 2);
            dueUnlike(x, "a like amount, of other signs", 0, -1, 0, -1);
            dueUnlike(x, "a like amount, of another rate", -5000, 2, 0, 1);
        });
        holds("Returns whether they have.", x -> {
            due("none and none", true, x.isSame(0, 1));
            fill(x, 0);
            due("nine and none", false, x.isSame(0, 1));
            due("none and nine", false, x.isSame(1, 0));
            fill(x, 1);
            due("nine and nine", true, x.isSame(0, 1));
            due("nine and the same bill", true, x.isSame(0, 0));
            x.remove(1, 8);
            due("nine and the first eight", false, x.isSame(0, 1));
            due("eight and nine", false, x.isSame(1, 0));
            add(x, 1, 3, 1);
            due("the last one is another", false, x.isSame(0, 1));
            x.copy(0, 1);
            x.move(1, 8, 7);
            due("another order", false, x.isSame(0, 1));
        });
        holds("Throws `IndexOutOfBoundsException` if there is no such bill, for either", x -> {
            fill(x, 0);
            noSuchBill(x, bill -> x.isSame(bill, 0) ? 1 : 0);
            noSuchBill(x, bill -> x.isSame(0, bill) ? 1 : 0);
            noSuchBill(x, bill -> x.isSame(bill, bill) ? 1 : 0);
        });
    }

    private void dueUnlike(Billwright x, String what, int rate, int price, int digits, int count) {
        addAt(x, 1, rate, price, digits, count);
        due(what, false, x.isSame(0, 1));
        x.remove(1, 0);
    }
}
