import java.math.BigInteger;

/** The boundary cases of the promises 34 to 37: all of them. */
final class TogetherBoundaries extends Sentences {
    TogetherBoundaries(Check check, Document document) {
        super(check, document);
    }

    @Override
    void run() {
        share();
        shareRefused();
        raisedShare();
        checksum();
        isSound();
    }

    private void share() {
        promise(34);
        holds("`bill`: 0 to 2", x -> {
            add(x, 0, 0, 1, 1);
            add(x, 2, 0, 3, 1);
            dueDouble("bill 0", 0.5, x.share(0, 0));
            dueDouble("bill 2", 0.75, x.share(2, 0));
            noSuchBill(x, bill -> (long) x.share(bill, 0));
        });
        holds("`at`: the place of the line, from 0", x -> {
            fill(x, 0);
            dueDouble("the first one", 11.0 / 500.0, x.share(0, 0));
            dueDouble("the last one", 100.0 / 500.0, x.share(0, 8));
            noSuchLine((y, bill, at) -> (long) y.share(bill, at));
        });
        holds("Returns its amount divided by the total, both in the least money and converted to double.", x -> {
            add(x, 0, 3, 5, 1);
            dueDouble("all, of a total of 0.01", 1.0, x.share(0, 0));
            dueDouble("none", 0.0, x.share(0, 1));
            add(x, 1, 2, -2, 1);
            dueDouble("all and more, of a total of -0.01", 2.0, x.share(1, 0));
            dueDouble("less than none", -1.0, x.share(1, 1));
            x.cutBy(2, 3, UP);
            for (int i = 0; i < 9; i++) {
                addAt(x, 2, 9999, 99999, 0, 99);
            }
            dueDouble("of the greatest total", 19798812010.0 / 178189308090.0, x.share(2, 8));
            x.close(1, CARRIED);
            dueDouble("closed", 2.0, x.share(1, 0));
        });
    }

    private void shareRefused() {
        promise(34);
        holds("Throws `IndexOutOfBoundsException` if there is no such bill or line", x -> {
            noSuchBill(x, bill -> (long) x.share(bill, 0));
            noSuchLine((y, bill, at) -> (long) y.share(bill, at));
            add(x, 0, 0, 0);
            outside("line, the total is 0", x, INDEX, 0, 0, at -> (long) x.share(0, at));
        });
        holds("Throws `ArithmeticException` if the total is 0", x -> {
            add(x, 0, 0, 1, -1);
            add(x, 1, 4, 50);
            add(x, 2, 4, -50);
            refused("the whole is 0", x, ARITHMETIC, () -> (long) x.share(0, 0));
            refused("the whole is cut to 0", x, ARITHMETIC, () -> (long) x.share(1, 0));
            refused("the whole below 0 is cut to 0", x, ARITHMETIC, () -> (long) x.share(2, 0));
            add(x, 1, 4, 1);
            add(x, 2, 4, -1);
            dueDouble("just above what is cut to 0", 1.0, x.share(1, 0));
            dueDouble("just below what is cut to 0: the earlier one of -0.01 and 0 is told as -0.01 by its rest", 1.0,
                    x.share(2, 0));
            x.close(0, BY_RESTS);
            refused("closed", x, ARITHMETIC, () -> (long) x.share(0, 1));
        });
    }

    private void raisedShare() {
        promise(35);
        holds("Returns how many are raised in all three bills, divided by how many lines there are, both converted to"
                + " float.", x -> {
            add(x, 1, 0, 1);
            dueFloat("none of one", 0.0f, x.raisedShare());
            x.cutBy(2, 0, UP);
            add(x, 2, 1, 9);
            dueFloat("one of two", 0.5f, x.raisedShare());
            x.remove(1, 0);
            dueFloat("one of one", 1.0f, x.raisedShare());
            x.remove(2, 0);
            for (int bill = 0; bill <= 2; bill++) {
                x.cutBy(bill, 0, UP);
                fillWith(x, bill, 1, 9);
            }
            dueFloat("all of 27", 1.0f, x.raisedShare());
            x.cutBy(0, 0, DOWN);
            dueFloat("26 of 27", 26.0f / 27.0f, x.raisedShare());
            x.cutBy(1, 0, FLOOR);
            dueFloat("25 of 27", 25.0f / 27.0f, x.raisedShare());
            x.close(2, CARRIED);
            dueFloat("25 of 27, one is closed", 25.0f / 27.0f, x.raisedShare());
        });
        holds("Throws `ArithmeticException` if there are no lines", x -> {
            refused("at first", x, ARITHMETIC, () -> (long) x.raisedShare());
            for (int bill = 0; bill <= 2; bill++) {
                add(x, bill, 0, 1);
                dueFloat("one in bill " + bill, 0.0f, x.raisedShare());
                x.remove(bill, 0);
                refused("taken out of bill " + bill, x, ARITHMETIC, () -> (long) x.raisedShare());
            }
            x.close(0, BY_RESTS);
            refused("closed", x, ARITHMETIC, () -> (long) x.raisedShare());
        });
    }

    /** Without an end, as no number goes round in it, and cut to a long only then. */
    private static long sumOf(long... numbers) {
        BigInteger sum = BigInteger.valueOf(17);
        for (long number : numbers) {
            sum = sum.multiply(BigInteger.valueOf(31)).add(BigInteger.valueOf(number));
        }
        return sum.longValue();
    }

    private void checksum() {
        promise(36);
        holds("how it was closed (0 if it is open)", x -> {
            due("open", sumOf(2, 6, 0, 0, 2, 6, 0, 0, 2, 6, 0, 0), x.checksum());
            x.close(0, BY_RESTS);
            x.close(1, CARRIED);
            due("closed", sumOf(2, 6, 1, 0, 2, 6, 2, 0, 2, 6, 0, 0), x.checksum());
            x.open(1);
            due("opened", sumOf(2, 6, 1, 0, 2, 6, 0, 0, 2, 6, 0, 0), x.checksum());
        });
        holds("its price as it was given, the digits behind the point, the count, the rate, and its told amount, 0 if"
                + " the bill is open.", x -> {
            add(x, 1, 4, 50000);
            due("5.0000", sumOf(2, 6, 0, 0, 2, 6, 0, 1, 50000, 4, 1, 0, 0, 2, 6, 0, 0), x.checksum());
            x.close(1, BY_RESTS);
            due("closed", sumOf(2, 6, 0, 0, 2, 6, 1, 1, 50000, 4, 1, 0, 500, 2, 6, 0, 0), x.checksum());
            x.correct(1, 0, -5, 0, 99);
            due("corrected", sumOf(2, 6, 0, 0, 2, 6, 1, 1, -5, 0, 99, 0, -49500, 2, 6, 0, 0), x.checksum());
            x.open(1);
            due("opened", sumOf(2, 6, 0, 0, 2, 6, 0, 1, -5, 0, 99, 0, 0, 2, 6, 0, 0), x.checksum());
        });
        holds("from 17 on, it is taken 31 times and added to it, one by one, as a long that goes round:", x -> {
            long[] numbers = new long[3 * (4 + 9 * 5)];
            int next = 0;
            for (int bill = 0; bill <= 2; bill++) {
                x.cutBy(bill, 3, bill);
                numbers[next] = 3;
                numbers[next + 1] = bill;
                numbers[next + 3] = 9;
                next += 4;
                for (int i = 0; i < 9; i++) {
                    addAt(x, bill, 9999 - i, -99999 + i, 4, 99);
                    numbers[next] = -99999 + i;
                    numbers[next + 1] = 4;
                    numbers[next + 2] = 99;
                    numbers[next + 3] = 9999 - i;
                    next += 5;
                }
            }
            due("all full", sumOf(numbers), x.checksum());
        });
        holds("Returns it.", x -> {
            fill(x, 0);
            due("asked again, the same", x.checksum(), x.checksum());
        });
    }

    private void isSound() {
        promise(37);
        holds("`bill`: 0 to 2", x -> {
            for (int bill = 0; bill <= 2; bill++) {
                due("bill " + bill, true, x.isSound(bill));
            }
            noSuchBill(x, bill -> x.isSound(bill) ? 1 : 0);
        });
        holds("Returns whether it is: always true.", x -> {
            for (int way = UP; way <= HALF_EVEN; way++) {
                for (int places = 0; places <= 3; places++) {
                    soundAtTheEdges(way, places);
                }
            }
        });
        holds("Throws `IndexOutOfBoundsException` if there is no such bill", x -> {
            fill(x, 0);
            x.close(0, BY_RESTS);
            noSuchBill(x, bill -> x.isSound(bill) ? 1 : 0);
        });
    }

    private void soundAtTheEdges(int way, int places) {
        int[] half = {5000, 10000, 10000, -5000, -10000, -10000, 15000, -25000, 0};
        int[] nearly = {1, -2, 9999, -19998, 19998, 1, 1, -1, 4999};
        for (int[] prices : new int[][] {half, nearly, {0}, {}}) {
            Billwright x = cut(places, way, 4, prices);
            String what = prices.length + " lines, way " + way + ", places " + places;
            due(what, true, x.isSound(0));
            for (int how = BY_RESTS; how <= CARRIED; how++) {
                x.close(0, how);
                due(what + ", closed " + how, true, x.isSound(0));
                if (prices.length > 0) {
                    x.correct(0, prices.length - 1, 99999, 4, -99);
                    due(what + ", corrected " + how, true, x.isSound(0));
                }
                x.open(0);
            }
        }
    }
}
