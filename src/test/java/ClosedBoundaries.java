/** The boundary cases of the promises 23 to 26: closed bills. */
final class ClosedBoundaries extends Sentences {
    ClosedBoundaries(Check check, Document document) {
        super(check, document);
    }

    @Override
    void run() {
        close();
        closeRefused();
        told();
        correct();
        correctAnswer();
        correctRefused();
        open();
    }

    private static Billwright closed(Billwright open, int how) {
        open.close(0, how);
        return open;
    }

    private void dueTold(String what, Billwright x, int bill, long... want) {
        for (int i = 0; i < want.length; i++) {
            due(what + ", line " + i, want[i], x.told(bill, i));
        }
    }

    private void close() {
        promise(23);
        holds("`bill`: 0 to 2", x -> {
            x.close(0, BY_RESTS);
            x.close(2, CARRIED);
            due("bill 1 is open", 1, x.line(1, 0, 1, 0, 1));
            refused("bill 0 is closed", x, STATE, () -> x.line(0, 0, 1, 0, 1));
            refused("bill 2 is closed", x, STATE, () -> x.line(2, 0, 1, 0, 1));
            noSuchBill(x, bill -> x.close(bill, BY_RESTS));
        });
        holds("`how`: how its lines are told: 1 by the greatest rests, 2 by carrying the rest along", x -> {
            add(x, 0, 3, 333, 333, 333);
            x.copy(0, 1);
            outside("how", x, ARGUMENT, 1, 2, how -> x.close(0, how));
            x.close(0, 1);
            x.close(1, 2);
            dueTold("by the greatest rests", x, 0, 34, 33, 33);
            dueTold("by carrying", x, 1, 33, 34, 33);
        });
        holds("Returns how many of its lines are told otherwise than alone.", x -> {
            due("none of none, by rests", 0, x.close(1, BY_RESTS));
            due("none of none, by carrying", 0, x.close(2, CARRIED));
            due("none of one", 0, cut(0, UP, 1, 1).close(0, BY_RESTS));
            due("none of nine", 0, cut(0, FLOOR, 1, 1, 1, 1, 1, 1, 1, 1, 1, 1).close(0, BY_RESTS));
            due("all of nine", 9, cut(0, UP, 1, 1, 1, 1, 1, 4, -2, -2, -2, -2).close(0, BY_RESTS));
            due("all but the first one", 8, cut(0, DOWN, 1, 9, 9, 9, 9, 9, 9, 9, 9, 9).close(0, CARRIED));
        });
    }

    private void closeRefused() {
        promise(23);
        holds("Throws `IndexOutOfBoundsException` if there is no such bill", x -> {
            fill(x, 0);
            noSuchBill(x, bill -> x.close(bill, BY_RESTS));
            noSuchBill(x, bill -> x.close(bill, 0));
        });
        holds("Throws `IllegalArgumentException` if there is no such way of telling", x -> {
            fill(x, 0);
            x.close(1, CARRIED);
            outside("how", x, ARGUMENT, 1, 2, how -> x.close(0, how));
            outside("how, closed,", x, ARGUMENT, 1, 2, how -> x.close(1, how));
        });
        holds("Throws `IllegalStateException` if it is closed", x -> {
            fill(x, 0);
            x.close(0, BY_RESTS);
            x.close(1, CARRIED);
            refused("as it was", x, STATE, () -> x.close(0, BY_RESTS));
            refused("otherwise", x, STATE, () -> x.close(0, CARRIED));
            refused("without lines", x, STATE, () -> x.close(1, CARRIED));
            x.open(0);
            due("opened", 2, x.close(0, CARRIED));
        });
    }

    private void told() {
        promise(24);
        holds("`bill`: 0 to 2", x -> {
            add(x, 0, 0, 1);
            add(x, 2, 0, 3);
            x.close(0, BY_RESTS);
            x.close(2, BY_RESTS);
            due("bill 0", 100, x.told(0, 0));
            due("bill 2", 300, x.told(2, 0));
            noSuchBill(x, bill -> x.told(bill, 0));
        });
        holds("`at`: the place of the line, from 0", x -> {
            fill(x, 0);
            x.close(0, BY_RESTS);
            due("the first one", 11, x.told(0, 0));
            due("the last one", 100, x.told(0, 8));
            noSuchLine((y, bill, at) -> y.told(bill, at));
        });
        holds("Returns it.", x -> {
            x.cutBy(0, 3, CEILING);
            addAt(x, 0, 9999, 99999, 0, 99);
            addAt(x, 0, 0, 0, 0, 0);
            x.close(0, BY_RESTS);
            dueTold("the greatest, and none", x, 0, 19798812010L, 0);
            x.correct(0, 1, -99999, 0, 99);
            dueTold("corrected", x, 0, 19798812010L, -9899901000L);
        });
        holds("Throws `IndexOutOfBoundsException` if there is no such bill or line", x -> {
            noSuchBill(x, bill -> x.told(bill, 0));
            noSuchLine((y, bill, at) -> y.told(bill, at));
        });
        holds("Throws `IllegalStateException` if the bill is open", x -> {
            fill(x, 0);
            refused("at first", x, STATE, () -> x.told(0, 0));
            x.close(0, CARRIED);
            x.copy(0, 1);
            refused("copied", x, STATE, () -> x.told(1, 8));
            x.open(0);
            refused("opened", x, STATE, () -> x.told(0, 8));
            x.close(0, BY_RESTS);
            due("closed", 11, x.told(0, 0));
        });
    }

    private void correct() {
        promise(25);
        holds("`bill`: 0 to 2", x -> {
            for (int bill = 0; bill <= 2; bill++) {
                add(x, bill, 0, 1);
                x.close(bill, BY_RESTS);
            }
            x.correct(0, 0, 2, 0, 1);
            x.correct(2, 0, 3, 0, 1);
            dueLines("bill 0", x, 0, 20000);
            dueLines("bill 1", x, 1, 10000);
            dueLines("bill 2", x, 2, 30000);
            noSuchBill(x, bill -> x.correct(bill, 0, 1, 0, 1));
        });
        holds("`at`: the place of the line, from 0", x -> {
            fill(x, 0);
            x.close(0, BY_RESTS);
            x.correct(0, 0, 1, 0, 1);
            x.correct(0, 8, 2, 0, 1);
            dueLines("the first and the last one", x, 0, 10000, 2222, 3333, 4444, 5555, 6666, 7777, 8888, 20000);
            noSuchLine((y, bill, at) -> y.correct(bill, at, 1, 0, 1));
        });
        holds("`price`: -99999 to 99999", x -> {
            add(x, 0, 0, 1, 2);
            x.close(0, BY_RESTS);
            x.correct(0, 0, -99999, 4, 1);
            x.correct(0, 1, 99999, 4, 1);
            dueLines("the least, and the greatest", x, 0, -99999, 99999);
            outside("price", x, ARGUMENT, -99999, 99999, price -> x.correct(0, 0, price, 0, 1));
        });
        holds("`digits`: how many of its digits are behind the point, 0 to 4", x -> {
            add(x, 0, 0, 7, 7, 7, 7, 7);
            x.close(0, BY_RESTS);
            for (int digits = 0; digits <= 4; digits++) {
                x.correct(0, digits, 1, digits, 1);
            }
            dueLines("none to four", x, 0, 10000, 1000, 100, 10, 1);
            outside("digits", x, ARGUMENT, 0, 4, digits -> x.correct(0, 0, 1, digits, 1));
        });
        holds("`count`: -99 to 99", x -> {
            add(x, 0, 0, 7, 7, 7);
            x.close(0, BY_RESTS);
            x.correct(0, 0, 1, 4, -99);
            x.correct(0, 1, 1, 4, 99);
            x.correct(0, 2, 1, 4, 0);
            dueLines("the least, the greatest, and none", x, 0, -99, 99, 0);
            outside("count", x, ARGUMENT, -99, 99, count -> x.correct(0, 0, 1, 0, count));
        });
    }

    private void correctAnswer() {
        promise(25);
        holds("its rate stays", x -> {
            addAt(x, 0, -5000, 1, 0, 1);
            addAt(x, 0, 9999, 1, 0, 1);
            x.close(0, BY_RESTS);
            x.correct(0, 0, 2, 0, 1);
            x.correct(0, 1, 2, 0, 1);
            dueLines("the least, and the greatest", x, 0, 10000, 39998);
        });
        holds("Returns its told amount then.", x -> {
            add(x, 0, 3, 333, 333, 333);
            x.close(0, BY_RESTS);
            due("the same, that was raised", 34, x.correct(0, 0, 333, 3, 1));
            due("the same, that was not", 33, x.correct(0, 2, 333, 3, 1));
            due("nothing, and 0.666 is 0.67", 1, x.correct(0, 0, 0, 0, 0));
            dueTold("others stay", x, 0, 1, 33, 33);
            add(x, 1, 3, 333);
            x.close(1, CARRIED);
            due("one line alone is the total", 200, x.correct(1, 0, 1995, 3, 1));
        });
        holds("Returns its told amount then.", x -> {
            x.cutBy(0, 3, UP);
            for (int i = 0; i < 9; i++) {
                addAt(x, 0, 9999, 99999, 0, 99);
            }
            x.close(0, BY_RESTS);
            // Each is 19798812009.9 of the least money, and all nine of them are raised; seven are 138591684069.3.
            due("from the greatest to the least", 138591684070L - 8 * 19798812010L, x.correct(0, 0, -99999, 0, 99));
        });
    }

    private void correctRefused() {
        promise(25);
        holds("Throws `IndexOutOfBoundsException` if there is no such bill or line", x -> {
            noSuchBill(x, bill -> x.correct(bill, 0, 100000, 5, 100));
            noSuchLine((y, bill, at) -> y.correct(bill, at, 100000, 5, 100));
        });
        holds("Throws `IllegalArgumentException` if the price, the digits or the count are out of range", x -> {
            add(x, 0, 0, 1);
            add(x, 1, 0, 1);
            x.close(0, CARRIED);
            for (int bill : new int[] {0, 1}) {
                refused("the price", x, ARGUMENT, () -> x.correct(bill, 0, 100000, 0, 1));
                refused("the digits", x, ARGUMENT, () -> x.correct(bill, 0, 1, 5, 1));
                refused("the count", x, ARGUMENT, () -> x.correct(bill, 0, 1, 0, 100));
                refused("all", x, ARGUMENT, () -> x.correct(bill, 0, -100000, -1, -100));
            }
        });
        holds("Throws `IllegalStateException` if the bill is open", x -> {
            fill(x, 0);
            refused("at first", x, STATE, () -> x.correct(0, 0, 1, 0, 1));
            x.close(0, BY_RESTS);
            due("closed: 5.89 less all but 0.11 of 5.00", 100, x.correct(0, 0, 1, 0, 1));
            x.open(0);
            refused("opened", x, STATE, () -> x.correct(0, 8, 1, 0, 1));
        });
    }

    private void open() {
        promise(26);
        holds("`bill`: 0 to 2", x -> {
            x.close(0, BY_RESTS);
            x.close(1, BY_RESTS);
            x.close(2, CARRIED);
            x.open(0);
            x.open(2);
            due("bill 0 is open", 1, x.line(0, 0, 1, 0, 1));
            due("bill 2 is open", 1, x.line(2, 0, 1, 0, 1));
            refused("bill 1 is closed", x, STATE, () -> x.line(1, 0, 1, 0, 1));
            noSuchBill(x, bill -> x.open(bill));
        });
        openAnswer();
        holds("Throws `IndexOutOfBoundsException` if there is no such bill", x -> {
            fill(x, 0);
            x.close(0, BY_RESTS);
            noSuchBill(x, bill -> x.open(bill));
        });
        holds("Throws `IllegalStateException` if it is open", x -> {
            fill(x, 0);
            refused("at first", x, STATE, () -> x.open(0));
            refused("without lines", x, STATE, () -> x.open(1));
            x.close(0, CARRIED);
            x.open(0);
            refused("opened", x, STATE, () -> x.open(0));
            x.close(0, CARRIED);
            due("closed again", 0, x.open(0));
        });
    }

    private void openAnswer() {
        promise(26);
        holds("Opens a closed bill; its told amounts are gone.", x -> {
            fill(x, 0);
            long before = x.checksum();
            x.close(0, CARRIED);
            x.open(0);
            due("all is as it was", before, x.checksum());
        });
        holds("Returns how many lines were told otherwise than they would be now, if the bill were closed as it was.",
                x -> {
            x.close(1, BY_RESTS);
            due("none of none", 0, x.open(1));
            for (int how = BY_RESTS; how <= CARRIED; how++) {
                due("none of nine, " + how, 0, closed(cut(0, DOWN, 1, 9, 9, 9, 9, 9, 9, 9, 9, 9), how).open(0));
            }
            // Told by carrying: -1, 2, -2, 2, -2, -1, 1, -1, 0. With 0.3 for -0.4: 1, 0, 0, 0, 0, -2, 0, 0, -1.
            Billwright nine = closed(cut(0, UP, 1, -4, 5, -4, 5, -6, -9, 4, -8, -2), CARRIED);
            due("corrected", -1, nine.correct(0, 0, 3, 1, 1));
            due("all of nine", 9, nine.open(0));
            Billwright back = closed(cut(0, UP, 1, -4, 5, -4, 5, -6, -9, 4, -8, -2), CARRIED);
            back.correct(0, 0, 3, 1, 1);
            back.correct(0, 0, -4, 1, 1);
            due("none, corrected back", 0, back.open(0));
        });
    }
}
