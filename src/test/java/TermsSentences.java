/** What the terms of the document say of ordinary amounts; their boundary cases stand in {@link TermsBoundaries}. */
final class TermsSentences extends Sentences {
    private static final int OBJECTS = 150;
    /** Twice that, and the looks behind, twice three times 41 at most, stay below the 512 calls of an object. */
    private static final int CALLS = 100;
    /** Lines of 0.001, -0.001, 0.005, -0.019 and 0.02: together they are 0.006, and 0.01 less if cut to the floor. */
    private static final int[] MIXED = {1, -1, 5, -19, 20};

    private long seed = 5;

    TermsSentences(Check check, Document document) {
        super(check, document);
    }

    @Override
    void run() {
        section("Terms");
        whateverIsCalled();
        lines();
        rests();
        told();
        taxes();
        anotherMoney();
    }

    private int next(int least, int most) {
        seed = seed * 6364136223846793005L + 1442695040888963407L;
        return (int) (least + Math.floorMod(seed >>> 33, (long) most - least + 1));
    }

    private void whateverIsCalled() {
        for (int object = 0; object < OBJECTS; object++) {
            int places = object % 4;
            holds("Whatever is called, it is true of each bill:", x -> {
                for (int bill = 0; bill <= 2; bill++) {
                    x.cutBy(bill, places, next(UP, HALF_EVEN));
                }
                for (int half = 1; half <= 2; half++) {
                    for (int i = 0; i < CALLS; i++) {
                        callAny(x, places);
                    }
                    for (int bill = 0; bill <= 2; bill++) {
                        theoremHolds(x, bill, new long[] {100000000L, 10000000L, 1000000L, 100000L}[places]);
                    }
                }
            });
        }
    }

    /** Any call that changes something, be it refused or not; the places of the bills stay what they are. */
    private void callAny(Billwright x, int places) {
        int bill = next(0, 2);
        int at = next(0, 9);
        int price = next(0, 1) == 0 ? next(-20, 20) : next(-99999, 99999);
        try {
            switch (next(0, 12)) {
                case 0:
                    x.cutBy(bill, places, next(UP, HALF_EVEN));
                    break;
                case 1:
                    x.rate(bill, at, 500 * next(-11, 20));
                    break;
                case 2:
                    x.remove(bill, at);
                    break;
                case 3:
                    x.move(bill, at, next(0, 9));
                    break;
                case 4:
                    x.sort(bill);
                    break;
                case 5:
                    x.split(bill, at, next(0, 2));
                    break;
                case 6:
                    x.copy(bill, next(0, 2));
                    break;
                case 7:
                    x.close(bill, next(1, 2));
                    break;
                case 8:
                    x.open(bill);
                    break;
                case 9:
                    x.correct(bill, at, price, next(0, 4), next(-9, 9));
                    break;
                default:
                    x.line(bill, at, price, next(0, 4), next(-9, 9));
                    break;
            }
        } catch (IndexOutOfBoundsException | IllegalArgumentException | IllegalStateException e) {
            due("the program's own exception", true, Check.isThrownByProgram(e));
        }
    }

    private void theoremHolds(Billwright x, int bill, long least) {
        String what = "bill " + bill + ",";
        int lines = x.lines(bill);
        boolean hasTold = lines > 0 && isClosed(x, bill);
        long rests = 0;
        long carried = 0;
        long told = 0;
        for (int i = 0; i < lines; i++) {
            long exact = x.exact(bill, i);
            long byRests = x.byRests(bill, i);
            long byCarrying = x.carried(bill, i);
            long off = Math.abs(byRests * least - exact);
            due(what + " by rests, line " + i, true, exact % least == 0 ? off == 0 : off < least);
            due(what + " carried, line " + i, true, Math.abs(byCarrying * least - exact) < 2 * least);
            rests += byRests;
            carried += byCarrying;
            told += hasTold ? x.told(bill, i) : 0;
        }
        long total = x.total(bill);
        due(what + " by rests, all", total, rests);
        due(what + " carried, all", total, carried);
        due(what + " told, all", hasTold ? total : 0, told);
        due(what + " is sound", true, x.isSound(bill));
    }

    /** A bill that has lines. */
    private static boolean isClosed(Billwright x, int bill) {
        try {
            x.told(bill, 0);
            return true;
        } catch (IllegalStateException e) {
            return false;
        }
    }

    private void lines() {
        holds("A line has a price, 5 digits at most, 0 to 4 of which are behind the point, a count, and a rate in"
                + " hundredths of a per cent;", x -> {
            long[] want = {1234500000000L, 123450000000L, 12345000000L, 1234500000L, 123450000L};
            for (int digits = 0; digits <= 4; digits++) {
                x.line(0, digits, 12345, digits, 1);
                due("price, digits " + digits, want[digits], x.exact(0, digits));
            }
            refused("six digits", x, ARGUMENT, () -> x.line(0, 0, 100000, 0, 1));
            x.line(1, 0, 12345, 2, 7);
            due("count", 86415000000L, x.exact(1, 0));
            x.rate(1, 0, 1);
            due("rate", 86423641500L, x.exact(1, 0));
        });
        holds("How far a told amount is off is told less exact.", x -> {
            add(x, 0, 3, 6);
            add(x, 1, 3, 4);
            due("told 0.01 of 0.006", 400000, x.alone(0, 0) * 1000000 - x.exact(0, 0));
            due("told 0 of 0.004", -400000, x.alone(1, 0) * 1000000 - x.exact(1, 0));
            due("0.006, without a sign", 400000, x.off(0, ALONE));
            due("0.004, without a sign", 400000, x.off(1, ALONE));
        });
    }

    private void rests() {
        holds("The rest of a line is its exact amount less what this is, cut to the floor;", x -> {
            add(x, 0, 3, MIXED);
            // 0.001, 0.009, 0.005, 0.001 and 0
            int[] want = {2, 0, 1, 3, 4};
            for (int way = UP; way <= HALF_EVEN; way++) {
                x.cutBy(0, 2, way);
                for (int i = 0; i < want.length; i++) {
                    due("rank by " + way + ", line " + i, want[i], x.rank(0, i));
                }
            }
        });
        holds("by the greatest rests each line is cut to the floor, and one of the least money more is told of so many"
                + " lines as it takes to add up to the total:", x -> {
            add(x, 0, 3, MIXED);
            int[] raised = {2, 1, 2, 1, 2, 2, 2};
            int[][] want = {{0, -1, 0, -2, 2}, {0, 0, 0, -2, 2}, {0, 0, 1, -2, 2}};
            for (int way = UP; way <= HALF_EVEN; way++) {
                x.cutBy(0, 2, way);
                due("raised by " + way, raised[way], x.raised(0));
                for (int i = 0; i < MIXED.length; i++) {
                    due("by " + way + ", line " + i, want[raised[way]][i], x.byRests(0, i));
                }
            }
        });
    }

    private void told() {
        holds("A bill is closed by the greatest rests, or by carrying;", x -> {
            add(x, 0, 3, 333, 333, 333);
            x.copy(0, 1);
            x.close(0, BY_RESTS);
            x.close(1, CARRIED);
            int[][] want = {{34, 33, 33}, {33, 34, 33}};
            for (int bill = 0; bill <= 1; bill++) {
                for (int i = 0; i < 3; i++) {
                    due("bill " + bill + ", line " + i, want[bill][i], x.told(bill, i));
                }
            }
        });
    }

    private void taxes() {
        holds("A rate r of 0 to 9999 hundredths of a per cent, put on top of an amount, makes it the amount times 1 +"
                + " r, cut by a way;", x -> {
            // 11.9, 62.5 and 101.01
            int[][] amounts = {{10, 1900}, {50, 2500}, {100, 101}};
            long[][] above = {
                {12, 63, 102}, {11, 62, 101}, {12, 63, 102}, {11, 62, 101}, {12, 63, 101}, {12, 62, 101}, {12, 62, 101},
            };
            for (int way = UP; way <= HALF_EVEN; way++) {
                int below = way == CEILING ? FLOOR : way == FLOOR ? CEILING : way;
                for (int i = 0; i < amounts.length; i++) {
                    due(amounts[i][0] + " by " + way, above[way][i], x.onTop(amounts[i][0], amounts[i][1], way));
                    due(-amounts[i][0] + " by " + way, -above[below][i], x.onTop(-amounts[i][0], amounts[i][1], way));
                }
                due("no tax by " + way, 10, x.onTop(10, 0, way));
                due("needs no cut, by " + way, 19999, x.onTop(10000, 9999, way));
            }
        });
        holds("taken out of an amount, it leaves the amount divided by 1 + r, cut by a way.", x -> {
            // 7.5, 2.5 and 84.03..
            int[][] amounts = {{9, 2000}, {3, 2000}, {100, 1900}};
            long[][] above = {{8, 3, 85}, {7, 2, 84}, {8, 3, 85}, {7, 2, 84}, {8, 3, 84}, {7, 2, 84}, {8, 2, 84}};
            for (int way = UP; way <= HALF_EVEN; way++) {
                int below = way == CEILING ? FLOOR : way == FLOOR ? CEILING : way;
                for (int i = 0; i < amounts.length; i++) {
                    due(amounts[i][0] + " by " + way, above[way][i], x.within(amounts[i][0], amounts[i][1], way));
                    due(-amounts[i][0] + " by " + way, -above[below][i], x.within(-amounts[i][0], amounts[i][1], way));
                }
                due("no tax by " + way, 10, x.within(10, 0, way));
                due("needs no cut, by " + way, 10000, x.within(19999, 9999, way));
            }
        });
    }

    private void anotherMoney() {
        holds("what a line is alone is told there, times a price of the money here, cut by the bill's way to some"
                + " places;", x -> {
            add(x, 0, 3, 1005);
            // 1.005 is 1 alone, and 1.5 there; 1.005 itself would be 1.5075.
            due("3 places", 1500, x.abroad(0, 0, 15, 1, 3));
            due("2 places", 150, x.abroad(0, 0, 15, 1, 2));
            due("1 place", 15, x.abroad(0, 0, 15, 1, 1));
            long[] want = {2, 1, 2, 1, 2, 1, 2};
            add(x, 1, 2, 100);
            for (int way = UP; way <= HALF_EVEN; way++) {
                x.cutBy(1, 2, way);
                due("no places, by " + way, want[way], x.abroad(1, 0, 15, 1, 0));
            }
        });
        holds("and here again, divided by that price, cut by the bill's way to the least money here.", x -> {
            add(x, 0, 2, 100);
            // 0.003 there is 0 or 0.01, and that 3.33.. here.
            int[] want = {234, -100, 234, -100, -100, -100, -100};
            // 0.333 there is 0.3 or 0.4, and that 0.9009.. or 1.2012.. here.
            int[] third = {21, -10, 21, -10, -10, -10, -10};
            for (int way = UP; way <= HALF_EVEN; way++) {
                x.cutBy(0, 2, way);
                due("0.003 by " + way, want[way], x.home(0, 0, 3, 3, 2));
                due("0.333 by " + way, third[way], x.home(0, 0, 333, 3, 1));
                due("1 by " + way, 0, x.home(0, 0, 1, 0, 2));
            }
        });
    }
}
