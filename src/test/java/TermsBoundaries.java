import java.util.Arrays;

/** The boundary cases that the document tells outside of its promises: most of all in its terms, and in the theorem. */
final class TermsBoundaries extends Sentences {
    private static final int MOST_CALLS = 512;
    /** The least money by a bill's places, in hundred-millionths. */
    private static final long[] LEAST = {100000000L, 10000000L, 1000000L, 100000L};
    /** Bills of no line, of one and of nine: like rests, halves, and amounts next to them and to whole ones. */
    private static final int[][] ROWS = {
        {}, {5}, {-9999}, {1, 1, 1, 1, 1, 1, 1, 1, 1}, {9999, 9999, 9999, 9999, 9999, 9999, 9999, 9999, 9999},
        {5000, 10000, 10000, -5000, -10000, -10000, 15000, -25000, 0}, {1, -2, 9999, -19998, 19998, 1, 1, -1, 4999},
    };

    TermsBoundaries(Check check, Document document) {
        super(check, document);
    }

    /** A test that is held for each of the bills, cut by each way to each number of places. */
    private interface BillTest {
        void look(Billwright x, String what, int way, long least);
    }

    @Override
    void run() {
        calls();
        section("Terms");
        theoremOfRests();
        theoremOfCarrying();
        theoremOfCorrections();
        theoremOfTaxes();
        theoremOfMoney();
        money();
        amounts();
        closed();
        closedLines();
        exceptions();
        firstIsThrown();
        firstOfStateIsThrown();
    }

    private void calls() {
        section("What it is");
        holds("An object is used for at most 512 calls after it has been made;", x -> {
            for (int call = 1; call < MOST_CALLS; call += 2) {
                due("call " + call, 1, x.line(0, 0, 1, 0, 1));
                due("call " + (call + 1), 0, x.remove(0, 0));
            }
            Billwright y = new Billwright();
            for (int call = 1; call < MOST_CALLS; call++) {
                y.copy(0, 1);
            }
            due("the last one", 1, y.line(0, 0, 1, 0, 1));
        });
    }

    private static void ofAllBills(BillTest test) {
        for (int[] row : ROWS) {
            for (int way = UP; way <= HALF_EVEN; way++) {
                for (int places = 0; places <= 3; places++) {
                    Billwright x = cut(places, way, 4, row);
                    String what = row.length + " lines, way " + way + ", places " + places + ",";
                    test.look(x, what, way, LEAST[places]);
                }
            }
        }
    }

    private void theoremOfRests() {
        holds("told by the greatest rests, its lines add up to its total;", x -> ofAllBills((y, what, way, least) -> {
            long sum = 0;
            for (int i = 0; i < y.lines(0); i++) {
                sum += y.byRests(0, i);
            }
            due(what, y.total(0), sum);
        }));
        holds("each line is its exact amount, cut down or up to the least money, so it is off by less than one of that,"
                + " and by nothing if the exact amount needs no cut;", x -> ofAllBills((y, what, way, least) -> {
            for (int i = 0; i < y.lines(0); i++) {
                long off = Math.abs(y.byRests(0, i) * least - y.exact(0, i));
                due(what + " by less than one, line " + i, true, off < least);
                due(what + " by nothing, line " + i, true, off == 0 || y.exact(0, i) % least != 0);
            }
        }));
        holds("and of all rows of amounts, whole numbers of the least money, that add up to the total, none is off by"
                + " less, all lines taken together.", x -> ofAllBills((y, what, way, least) -> {
            due(what, leastOff(y, least), y.off(0, BY_RESTS));
        }));
    }

    /**
     * By how much those rows are off that are off by the least: worked out line by line, for each number of the least
     * money by which the lines so far may be told more than they are, cut to the floor.
     */
    private static long leastOff(Billwright x, long least) {
        int middle = 50;
        long none = Long.MAX_VALUE / 2;
        long[] best = new long[2 * middle + 1];
        Arrays.fill(best, none);
        best[middle] = 0;
        long floors = 0;
        for (int i = 0; i < x.lines(0); i++) {
            long exact = x.exact(0, i);
            long floor = Math.floorDiv(exact, least);
            floors += floor;
            long[] next = new long[best.length];
            Arrays.fill(next, none);
            for (int more = -3; more <= 4; more++) {
                long off = Math.abs((floor + more) * least - exact);
                for (int sum = 4; sum < best.length - 4; sum++) {
                    next[sum + more] = Math.min(next[sum + more], best[sum] + off);
                }
            }
            best = next;
        }
        return best[(int) (x.total(0) - floors) + middle];
    }

    private void theoremOfCarrying() {
        holds("Told by carrying the rest along, the lines add up to the total, too;",
                x -> ofAllBills((y, what, way, least) -> {
            long sum = 0;
            for (int i = 0; i < y.lines(0); i++) {
                sum += y.carried(0, i);
            }
            due(what, y.total(0), sum);
        }));
        holds("each line is off by less than two of the least money, by less than one if the way is to the ceiling or"
                + " to the floor, by one at most if it is by halves;", x -> ofAllBills((y, what, way, least) -> {
            long most = way == CEILING || way == FLOOR ? least - 1 : way >= HALF_UP ? least : 2 * least - 1;
            for (int i = 0; i < y.lines(0); i++) {
                due(what + " line " + i, true, Math.abs(y.carried(0, i) * least - y.exact(0, i)) <= most);
            }
        }));
        holds("and what is told of a line does not hang on the lines behind it.",
                x -> ofAllBills((y, what, way, least) -> {
            long[] before = new long[y.lines(0)];
            for (int i = 0; i < before.length; i++) {
                before[i] = y.carried(0, i);
            }
            for (int left = before.length; left > 0; left--) {
                due(what + " the last one of " + left, before[left - 1], y.carried(0, left - 1));
                y.remove(0, left - 1);
            }
        }));
    }

    private void theoremOfCorrections() {
        holds("A correction of a closed bill changes the told amount of its line alone; the told ones add up to the new"
                + " total;", x -> ofAllBills((y, what, way, least) -> {
            y.close(0, BY_RESTS);
            for (int at = 0; at < y.lines(0); at += 8) {
                long others = y.total(0) - y.told(0, at);
                long told = y.correct(0, at, -4321, 3, 7);
                due(what + " the others stay, line " + at, others, y.total(0) - told);
                due(what + " as it is told, line " + at, told, y.told(0, at));
            }
        }));
        holds("that line is off by as much more, with its sign, as the total is off more;",
                x -> ofAllBills((y, what, way, least) -> {
            y.close(0, CARRIED);
            for (int at = 0; at < y.lines(0); at += 8) {
                long line = y.told(0, at) * least - y.exact(0, at);
                long total = y.total(0) * least - y.whole(0);
                y.correct(0, at, 99999, 4, -99);
                due(what + " line " + at, y.total(0) * least - y.whole(0) - total,
                        y.told(0, at) * least - y.exact(0, at) - line);
            }
        }));
        holds("corrected back at once, it is told as before.", x -> {
            for (int how = BY_RESTS; how <= CARRIED; how++) {
                Billwright y = new Billwright();
                fill(y, 0);
                y.close(0, how);
                long before = y.checksum();
                for (int at = 0; at <= 8; at += 4) {
                    y.correct(0, at, -99999, 0, 99);
                    y.correct(0, at, 1111 * (at + 1), 4, 1);
                    due("line " + at + ", how " + how, before, y.checksum());
                }
            }
        });
    }

    private void theoremOfTaxes() {
        holds("A tax that is put on top and taken out again leaves an amount off by one of the least money at most, and"
                + " by nothing if both ways are by halves, or one is to the ceiling and the other one to the floor, or"
                + " one is up and the other one down; taken out and put on top again by two at most, by one if both"
                + " ways are by halves.", x -> {
            for (int top = UP; top <= HALF_EVEN; top++) {
                for (int out = UP; out <= HALF_EVEN; out++) {
                    taxByWays(top, out);
                }
            }
        });
    }

    private void taxByWays(int top, int out) {
        Billwright x = new Billwright();
        boolean halves = top >= HALF_UP && out >= HALF_UP;
        boolean against = (top == CEILING && out == FLOOR) || (top == FLOOR && out == CEILING)
                || (top == UP && out == DOWN) || (top == DOWN && out == UP);
        for (int rate : new int[] {0, 1, 5000, 9998, 9999}) {
            for (int amount : new int[] {MIN, MIN + 1, -5000, -3, -2, -1, 0, 1, 2, 3, 5, 5000, MAX - 1, MAX}) {
                String what = amount + " and " + rate + ", ways " + top + " and " + out + ",";
                int undone = Math.abs(x.undone(amount, rate, top, out));
                int redone = Math.abs(x.redone(amount, rate, out, top));
                due(what + " undone", true, undone <= (halves || against ? 0 : 1));
                due(what + " redone", true, redone <= (halves ? 1 : 2));
            }
        }
    }

    private void theoremOfMoney() {
        holds("What is told in another money and back is off by no more than bound() tells: by nothing if the way is by"
                + " halves, and the least money there is worth less than the one here.", x -> {
            for (int way = UP; way <= HALF_EVEN; way++) {
                moneyByWay(way);
            }
        });
    }

    private void moneyByWay(int way) {
        for (int places = 0; places <= 3; places++) {
            for (int price : new int[] {1, 2, 3, 99, 100, 101, 998, 999}) {
                for (int digits = 0; digits <= 3; digits++) {
                    Billwright x = cut(places, way, 4, 1, 5000, 14999, 15000, -15000, 25001, -99999, 0, 33333);
                    int bound = x.bound(0, price, digits, 2);
                    boolean isLess = Math.pow(10, places + digits) < 100 * price;
                    due("nothing by halves, way " + way, true, way < HALF_UP || !isLess || bound == 0);
                    for (int at = 0; at < x.lines(0); at++) {
                        due("line " + at + " for " + price + "/" + digits + ", way " + way + ", places " + places, true,
                                Math.abs(x.home(0, at, price, digits, 2)) <= bound);
                    }
                }
            }
        }
    }

    private void money() {
        holds("There are the bills 0 to 2, with 0 to 9 lines each, at first without any, and open.", x -> {
            for (int bill = 0; bill <= 2; bill++) {
                int which = bill;
                due("lines of " + bill, 0, x.lines(bill));
                refused("told of " + bill, x, INDEX, () -> x.told(which, 0));
                refused("open of " + bill, x, STATE, () -> x.open(which));
                fill(x, bill);
                due("nine lines of " + bill, 9, x.lines(bill));
                refused("ten lines of " + bill, x, STATE, () -> x.line(which, 9, 1, 0, 1));
            }
            noSuchBill(x, bill -> x.lines(bill));
        });
        holds("A bill has places, 0 to 3, at first 2: its least money has so many digits behind the point.", x -> {
            for (int bill = 0; bill <= 2; bill++) {
                add(x, bill, 0, 1);
                due("at first, bill " + bill, 100, x.alone(bill, 0));
            }
            for (int places = 0; places <= 3; places++) {
                x.cutBy(0, places, UP);
                due("places " + places, new int[] {1, 10, 100, 1000}[places], x.alone(0, 0));
            }
        });
        holds("It has a way in which amounts are cut to the least money, at first 6: 0 up (away from 0), 1 down (to 0),"
                + " 2 to the ceiling, 3 to the floor, 4 to 6 to the nearest, and of two that are as near (by halves) 4"
                + " up, 5 down, 6 to the even one.", x -> {
            int[] prices = {5, 15, 4, 6, 1, 9, 10, 0};
            int[][] want = {
                {1, 2, 1, 1, 1, 1, 1, 0}, {0, 1, 0, 0, 0, 0, 1, 0}, {1, 2, 1, 1, 1, 1, 1, 0}, {0, 1, 0, 0, 0, 0, 1, 0},
                {1, 2, 0, 1, 0, 1, 1, 0}, {0, 1, 0, 1, 0, 1, 1, 0}, {0, 2, 0, 1, 0, 1, 1, 0},
            };
            for (int way = UP; way <= HALF_EVEN; way++) {
                int below = way == CEILING ? FLOOR : way == FLOOR ? CEILING : way;
                for (int i = 0; i < prices.length; i++) {
                    due(prices[i] + " by " + way, want[way][i], cut(0, way, 1, prices[i]).alone(0, 0));
                    due(-prices[i] + " by " + way, -want[below][i], cut(0, way, 1, -prices[i]).alone(0, 0));
                }
            }
            add(x, 0, 3, 5, 15);
            due("at first: half, to the even one", 0, x.alone(0, 0));
            due("at first: half, to the even one above", 2, x.alone(0, 1));
        });
        holds("its exact amount is the price times the count times 1 + the rate, which has 8 digits behind the point at"
                + " most.", x -> {
            addAt(x, 0, 1, 1, 4, 1);
            addAt(x, 0, -5000, -99999, 4, 99);
            due("of all digits", 10001, x.exact(0, 0));
            due("half of 9.9999 below 0, 99 times", -49499505000L, x.exact(0, 1));
        });
    }

    private void amounts() {
        holds("The whole of a bill is the sum of the exact amounts of its lines; its total is the whole, cut by its"
                + " way.", x -> {
            due("the whole of none", 0, x.whole(0));
            due("the total of none", 0, x.total(0));
            fillWith(x, 0, 4, 49);
            due("the whole of nine, none of which is anything alone", 4410000, x.whole(0));
            due("the total of nine, none of which is anything alone", 4, x.total(0));
        });
        holds("A line alone is its exact amount, cut by the bill's way; told so, lines need not add up.", x -> {
            add(x, 0, 4, 51, 51, 51, 51, 51, 51, 51, 51, 51);
            due("alone", 1, x.alone(0, 8));
            due("nine of them", 5, x.total(0));
            due("more than the total", 4, x.gap(0));
        });
        holds("those with the greatest rests, of like rests the earlier lines.", x -> {
            add(x, 0, 3, 13, -7, 23, 4, 3);
            // 0.036 is 0.04, and cut to the floor the lines are 0.02: the one with the rest 0.004 is raised, and then,
            // of the four with the rest 0.003, the first one.
            long[] want = {2, -1, 2, 1, 0};
            for (int i = 0; i < want.length; i++) {
                due("line " + i, want[i], x.byRests(0, i));
            }
        });
        holds("By carrying the rest along a line is the sum of the exact amounts up to it, cut by the bill's way, less"
                + " that up to the line ahead of it, likewise cut.", x -> {
            add(x, 0, 3, 6, 6, -12);
            due("the first one, ahead of which there is none", 1, x.carried(0, 0));
            due("the next one: 0.012 is 0.01", 0, x.carried(0, 1));
            due("the last one: 0 less 0.01", -1, x.carried(0, 2));
        });
        holds("Amounts are told in the least money of the bill, if nothing else is said.", x -> {
            add(x, 0, 0, 7);
            for (int places = 0; places <= 3; places++) {
                x.cutBy(0, places, UP);
                long want = new int[] {7, 70, 700, 7000}[places];
                due("total", want, x.total(0));
                due("alone", want, x.alone(0, 0));
                due("by rests", want, x.byRests(0, 0));
                due("carried", want, x.carried(0, 0));
                x.close(0, BY_RESTS);
                due("told", want, x.told(0, 0));
                due("corrected", want / 7, x.correct(0, 0, 1, 0, 1));
                due("corrected back", want, x.correct(0, 0, 7, 0, 1));
                x.open(0);
            }
        });
    }

    private void closed() {
        holds("the amounts of its lines are told then, and kept until it is opened.", x -> {
            add(x, 0, 3, 333, 333, 333);
            x.close(0, BY_RESTS);
            x.correct(0, 2, 339, 3, 1);
            due("by rests the first one is no longer raised", 33, x.byRests(0, 0));
            due("what was told of it is kept", 34, x.told(0, 0));
            x.open(0);
            refused("opened", x, STATE, () -> x.told(0, 0));
            x.close(0, BY_RESTS);
            due("closed again, it is told anew", 33, x.told(0, 0));
        });
    }

    private void closedLines() {
        holds("In a closed bill lines can only be corrected.", x -> {
            add(x, 0, 0, 2, 1);
            add(x, 1, 0, 3);
            x.close(0, BY_RESTS);
            refused("cut", x, STATE, () -> x.cutBy(0, 2, HALF_EVEN));
            refused("put", x, STATE, () -> x.line(0, 0, 1, 0, 1));
            refused("given a rate", x, STATE, () -> x.rate(0, 0, 1));
            refused("taken out", x, STATE, () -> x.remove(0, 0));
            refused("moved", x, STATE, () -> x.move(0, 0, 1));
            refused("sorted", x, STATE, () -> x.sort(0));
            refused("split off", x, STATE, () -> x.split(0, 0, 1));
            refused("moved behind", x, STATE, () -> x.split(1, 0, 0));
            refused("copied in", x, STATE, () -> x.copy(1, 0));
            due("copied out", 2, x.copy(0, 2));
            due("corrected", 500, x.correct(0, 0, 5, 0, 1));
            dueLines("corrected", x, 0, 50000, 10000);
        });
    }

    private void exceptions() {
        holds("A method that throws an exception changes nothing.", x -> {
            fill(x, 0);
            x.rate(0, 4, -5000);
            x.cutBy(0, 3, CEILING);
            x.cutBy(1, 3, FLOOR);
            fillWith(x, 1, 3, 333);
            x.close(1, CARRIED);
            refused("the second argument", x, ARGUMENT, () -> x.cutBy(0, 0, 7));
            refused("the last argument", x, ARGUMENT, () -> x.line(0, 0, 1, 1, 100));
            refused("no room", x, STATE, () -> x.line(0, 9, 1, 1, 1));
            refused("no room for all", x, STATE, () -> x.split(1, 0, 0));
            refused("no such place to move to", x, INDEX, () -> x.move(0, 0, 9));
            refused("closed, corrected out of range", x, ARGUMENT, () -> x.correct(1, 0, 1, 1, 100));
            refused("open, corrected", x, STATE, () -> x.correct(0, 0, 1, 1, 1));
            refused("closed, closed otherwise", x, STATE, () -> x.close(1, BY_RESTS));
            refused("open, opened", x, STATE, () -> x.open(0));
            refused("closed, copied to", x, STATE, () -> x.copy(0, 1));
            for (int i = 0; i < 9; i++) {
                due("kept, line " + i, 333, x.told(1, i));
                due("exact, line " + i, i == 4 ? 5555 * 5000L : 1111 * (i + 1) * 10000L, x.exact(0, i));
            }
        });
    }

    private void firstIsThrown() {
        holds("If several exceptions apply, the one that is documented first is thrown.", x -> {
            fill(x, 0);
            x.close(0, BY_RESTS);
            refused("cutBy: bill, way", x, INDEX, () -> x.cutBy(3, 0, 7));
            refused("line: place, price, closed", x, INDEX, () -> x.line(0, 10, 100000, 0, 0));
            refused("rate: line, rate, closed", x, INDEX, () -> x.rate(0, 9, 10000));
            refused("remove: line, closed", x, INDEX, () -> x.remove(0, 9));
            refused("move: line, closed", x, INDEX, () -> x.move(0, 0, 9));
            refused("sort: bill", x, INDEX, () -> x.sort(3));
            refused("split: place, same, closed", x, INDEX, () -> x.split(0, 10, 0));
            refused("copy: bill, closed", x, INDEX, () -> x.copy(3, 0));
            refused("off: bill, how", x, INDEX, () -> x.off(3, 3));
            refused("close: bill, how", x, INDEX, () -> x.close(3, 3));
            refused("told: line, open", x, INDEX, () -> x.told(1, 0));
            refused("correct: line, price, open", x, INDEX, () -> x.correct(1, 0, 100000, 0, 0));
            refused("abroad: line, price", x, INDEX, () -> x.abroad(1, 0, 0, 0, 0));
            refused("home: line, price", x, INDEX, () -> x.home(1, 0, 0, 0, 0));
            refused("bound: bill, price", x, INDEX, () -> x.bound(3, 0, 0, 0));
            refused("share: line, total of 0", x, INDEX, () -> (long) x.share(1, 0));
        });
    }

    private void firstOfStateIsThrown() {
        holds("If several exceptions apply, the one that is documented first is thrown.", x -> {
            fill(x, 0);
            fill(x, 1);
            x.close(0, BY_RESTS);
            refused("cutBy: way, closed", x, ARGUMENT, () -> x.cutBy(0, 0, 7));
            refused("line: count, closed", x, ARGUMENT, () -> x.line(0, 0, 0, 0, 100));
            refused("line: count, nine lines", x, ARGUMENT, () -> x.line(1, 0, 0, 0, 100));
            refused("rate: rate, closed", x, ARGUMENT, () -> x.rate(0, 0, 10000));
            refused("split: same, closed", x, ARGUMENT, () -> x.split(0, 0, 0));
            refused("split: same, more than nine lines", x, ARGUMENT, () -> x.split(1, 0, 1));
            refused("close: how, closed", x, ARGUMENT, () -> x.close(0, 0));
            refused("correct: count, open", x, ARGUMENT, () -> x.correct(1, 0, 0, 0, 100));
        });
    }
}
