/** The boundary cases of the promises 13 to 22: amounts. */
final class AmountBoundaries extends Sentences {
    /** Amounts around 0, around half of 1 and around 1, in hundred-millionths, as LINES tells how to make them. */
    private static final long[] AROUND = {0, 5000, 49999998, 50000000, 50000001, 99999999, 100000000, 100000002};
    /** For each of AROUND a rate and a price with four digits behind the point. */
    private static final int[][] LINES = {
        {0, 0}, {-5000, 1}, {-2, 5001}, {0, 5000}, {4041, 3561}, {-1, 10001}, {0, 10000}, {4041, 7122},
    };
    /** What each of AROUND is, cut to a whole number by each way from 0 to 6; 1 and 1.00000002 are the last ones. */
    private static final int[][] CUT = {
        {0, 1, 1, 1, 1, 1, 1, 2}, {0, 0, 0, 0, 0, 0, 1, 1}, {0, 1, 1, 1, 1, 1, 1, 2}, {0, 0, 0, 0, 0, 0, 1, 1},
        {0, 0, 0, 1, 1, 1, 1, 1}, {0, 0, 0, 0, 1, 1, 1, 1}, {0, 0, 0, 0, 1, 1, 1, 1},
    };

    AmountBoundaries(Check check, Document document) {
        super(check, document);
    }

    @Override
    void run() {
        exact();
        whole();
        total();
        alone();
        byRests();
        byRestsAnswer();
        carried();
        rank();
        raised();
        gap();
        off();
    }

    /** The way in which an amount below 0 is cut as one above 0 is by the other; they differ for ceiling and floor. */
    private static int mirrored(int way) {
        return way == CEILING ? FLOOR : way == FLOOR ? CEILING : way;
    }

    private void exact() {
        promise(13);
        holds("`bill`: 0 to 2", x -> {
            add(x, 0, 0, 1);
            add(x, 2, 0, 3);
            due("bill 0", 100000000L, x.exact(0, 0));
            due("bill 2", 300000000L, x.exact(2, 0));
            noSuchBill(x, bill -> x.exact(bill, 0));
        });
        holds("`at`: the place of the line, from 0", x -> {
            fill(x, 0);
            due("the first one", 11110000L, x.exact(0, 0));
            due("the last one", 99990000L, x.exact(0, 8));
            noSuchLine((y, bill, at) -> y.exact(bill, at));
        });
        holds("Returns it, in hundred-millionths.", x -> {
            addAt(x, 0, 9999, 99999, 0, 99);
            addAt(x, 0, 9999, -99999, 0, 99);
            addAt(x, 0, 9999, -99999, 0, -99);
            addAt(x, 0, -5000, 1, 4, 1);
            addAt(x, 0, 1, 1, 4, 1);
            addAt(x, 0, 9999, 0, 4, -99);
            addAt(x, 0, 9999, -99999, 0, 0);
            due("the greatest", DEAREST, x.exact(0, 0));
            due("the least", -DEAREST, x.exact(0, 1));
            due("the greatest, of two below 0", DEAREST, x.exact(0, 2));
            due("the least above 0", 5000, x.exact(0, 3));
            due("the last digit", 10001, x.exact(0, 4));
            due("a price of 0", 0, x.exact(0, 5));
            due("a count of 0", 0, x.exact(0, 6));
        });
        holds("Throws `IndexOutOfBoundsException` if there is no such bill or line", x -> {
            noSuchBill(x, bill -> x.exact(bill, 0));
            noSuchLine((y, bill, at) -> y.exact(bill, at));
        });
    }

    private void whole() {
        promise(14);
        holds("`bill`: 0 to 2", x -> {
            add(x, 0, 0, 1);
            add(x, 2, 0, 3);
            due("bill 0", 100000000L, x.whole(0));
            due("bill 2", 300000000L, x.whole(2));
            noSuchBill(x, bill -> x.whole(bill));
        });
        holds("Returns it, in hundred-millionths.", x -> {
            due("no lines", 0, x.whole(0));
            addAt(x, 0, 1, 1, 4, 1);
            due("one line", 10001, x.whole(0));
            addAt(x, 0, 1, -1, 4, 1);
            due("two that make nothing", 0, x.whole(0));
            for (int i = 0; i < 9; i++) {
                addAt(x, 1, 9999, 99999, 0, 99);
                addAt(x, 2, 9999, 99999, 0, -99);
            }
            due("the greatest", 9 * DEAREST, x.whole(1));
            due("the least", -9 * DEAREST, x.whole(2));
        });
        holds("Throws `IndexOutOfBoundsException` if there is no such bill", x -> {
            fill(x, 0);
            noSuchBill(x, bill -> x.whole(bill));
        });
    }

    private void total() {
        promise(15);
        holds("`bill`: 0 to 2", x -> {
            add(x, 0, 0, 1);
            add(x, 2, 0, 3);
            due("bill 0", 100, x.total(0));
            due("bill 2", 300, x.total(2));
            noSuchBill(x, bill -> x.total(bill));
        });
        for (int way = UP; way <= HALF_EVEN; way++) {
            int by = way;
            holds("Returns it.", x -> totalBy(x, by));
        }
        holds("Returns it.", x -> {
            x.cutBy(1, 3, UP);
            x.cutBy(2, 3, UP);
            for (int i = 0; i < 9; i++) {
                addAt(x, 1, 9999, 99999, 0, 99);
                addAt(x, 2, 9999, 99999, 0, -99);
            }
            due("the greatest", 178189308090L, x.total(1));
            due("the least", -178189308090L, x.total(2));
            x.close(1, CARRIED);
            due("the greatest, closed", 178189308090L, x.total(1));
        });
        holds("Throws `IndexOutOfBoundsException` if there is no such bill", x -> {
            fill(x, 0);
            noSuchBill(x, bill -> x.total(bill));
        });
    }

    /** The whole is the sum of two lines, so that neither of them would be cut to the same. */
    private void totalBy(Billwright x, int way) {
        x.cutBy(0, 0, way);
        due("no lines by " + way, 0, x.total(0));
        for (int i = 0; i < LINES.length; i++) {
            for (int sign = -1; sign <= 1; sign += 2) {
                addAt(x, 0, LINES[i][0], LINES[i][1], 4, sign);
                add(x, 0, 4, sign * 30007, -sign * 30007);
                int want = sign * CUT[sign > 0 ? way : mirrored(way)][i];
                due(sign * AROUND[i] + " by " + way, want, x.total(0));
                for (int left = 3; left > 0; left--) {
                    x.remove(0, 0);
                }
            }
        }
        for (int sign = -1; sign <= 1; sign += 2) {
            // 1.0001 less 1, each of ten-thousandths, is the least that there can be.
            addAt(x, 0, 1, 1, 4, sign);
            add(x, 0, 4, -sign);
            due("is the least", sign, x.whole(0));
            due("the least by " + way, sign * CUT[sign > 0 ? way : mirrored(way)][1], x.total(0));
            x.remove(0, 0);
            x.remove(0, 0);
        }
    }

    private void alone() {
        promise(16);
        holds("`bill`: 0 to 2", x -> {
            add(x, 0, 0, 1);
            add(x, 2, 0, 3);
            due("bill 0", 100, x.alone(0, 0));
            due("bill 2", 300, x.alone(2, 0));
            noSuchBill(x, bill -> x.alone(bill, 0));
        });
        holds("`at`: the place of the line, from 0", x -> {
            fill(x, 0);
            due("the first one", 11, x.alone(0, 0));
            due("the last one", 100, x.alone(0, 8));
            noSuchLine((y, bill, at) -> y.alone(bill, at));
        });
        for (int way = UP; way <= HALF_EVEN; way++) {
            int by = way;
            holds("Returns it.", x -> aloneBy(x, by));
        }
        holds("Returns it.", x -> {
            addAt(x, 0, 9999, 99999, 0, 99);
            addAt(x, 0, 9999, -99999, 0, 99);
            x.cutBy(0, 3, FLOOR);
            due("the greatest", 19798812009L, x.alone(0, 0));
            due("the least", -19798812010L, x.alone(0, 1));
        });
        holds("Throws `IndexOutOfBoundsException` if there is no such bill or line", x -> {
            noSuchBill(x, bill -> x.alone(bill, 0));
            noSuchLine((y, bill, at) -> y.alone(bill, at));
        });
    }

    private void aloneBy(Billwright x, int way) {
        x.cutBy(0, 0, way);
        for (int i = 0; i < LINES.length; i++) {
            for (int sign = -1; sign <= 1; sign += 2) {
                addAt(x, 0, LINES[i][0], LINES[i][1], 4, sign);
                due("is made", sign * AROUND[i], x.exact(0, 0));
                int want = sign * CUT[sign > 0 ? way : mirrored(way)][i];
                due(sign * AROUND[i] + " by " + way, want, x.alone(0, 0));
                x.remove(0, 0);
            }
        }
        add(x, 0, 1, 15, 25, -15, -25);
        int[][] halves = {{2, 3}, {1, 2}, {2, 3}, {1, 2}, {2, 3}, {1, 2}, {2, 2}};
        for (int i = 0; i < 2; i++) {
            due("half, line " + i + " by " + way, halves[way][i], x.alone(0, i));
            due("half, line " + (i + 2) + " by " + way, -halves[mirrored(way)][i], x.alone(0, i + 2));
        }
    }

    private void dueByRests(String what, Billwright x, long... want) {
        for (int i = 0; i < want.length; i++) {
            due(what + ", line " + i, want[i], x.byRests(0, i));
        }
    }

    private void byRests() {
        promise(17);
        holds("`bill`: 0 to 2", x -> {
            add(x, 0, 3, 336, 336);
            add(x, 2, 3, 3, 4);
            due("bill 0", 34, x.byRests(0, 0));
            due("bill 2", 1, x.byRests(2, 1));
            noSuchBill(x, bill -> x.byRests(bill, 0));
        });
        holds("`at`: the place of the line, from 0", x -> {
            fill(x, 0);
            due("the first one", 11, x.byRests(0, 0));
            due("the last one", 100, x.byRests(0, 8));
            noSuchLine((y, bill, at) -> y.byRests(bill, at));
        });
        holds("Throws `IndexOutOfBoundsException` if there is no such bill or line", x -> {
            noSuchBill(x, bill -> x.byRests(bill, 0));
            noSuchLine((y, bill, at) -> y.byRests(bill, at));
        });
    }

    private void byRestsAnswer() {
        promise(17);
        holds("Returns it.", x -> {
            dueByRests("none is raised, all need a cut", cut(0, DOWN, 1, 1, 1, 1, 1, 1, 1, 1, 1, 1),
                    0, 0, 0, 0, 0, 0, 0, 0, 0);
            dueByRests("none is raised, none needs a cut", cut(0, UP, 0, 1, -2, 0), 1, -2, 0);
            dueByRests("all are raised", cut(0, UP, 1, 9, 9, 9, 9, 9, 9, 9, 9, 9), 1, 1, 1, 1, 1, 1, 1, 1, 1);
            dueByRests("all but the last one", cut(0, DOWN, 1, 9, 9, 9, 9, 9, 9, 9, 9, 9), 1, 1, 1, 1, 1, 1, 1, 1, 0);
            dueByRests("the first one alone", cut(0, UP, 1, 1, 1, 1, 1, 1, 1, 1, 1, 1), 1, 0, 0, 0, 0, 0, 0, 0, 0);
            dueByRests("one line, half", cut(0, HALF_EVEN, 1, 15), 2);
            dueByRests("one line, half, below 0", cut(0, HALF_DOWN, 1, -15), -1);
        });
        holds("Returns it.", x -> {
            x.cutBy(0, 0, DOWN);
            addAt(x, 0, 0, 5000, 4, 1);
            addAt(x, 0, 4041, 3561, 4, 1);
            addAt(x, 0, -2, 5001, 4, 1);
            add(x, 0, 0, -1);
            dueByRests("the rest is greater by one hundred-millionth", x, 0, 1, 0, -1);
            dueByRests("of like rests the earlier one, below 0", cut(0, DOWN, 1, -5, 5), 0, 0);
            dueByRests("of like rests the earlier one, above 0", cut(0, DOWN, 1, 5, -5), 1, -1);
        });
    }

    private void dueCarried(String what, Billwright x, long... want) {
        for (int i = 0; i < want.length; i++) {
            due(what + ", line " + i, want[i], x.carried(0, i));
        }
    }

    private void carried() {
        promise(18);
        holds("`bill`: 0 to 2", x -> {
            add(x, 0, 0, 1);
            add(x, 2, 0, 3);
            due("bill 0", 100, x.carried(0, 0));
            due("bill 2", 300, x.carried(2, 0));
            noSuchBill(x, bill -> x.carried(bill, 0));
        });
        holds("`at`: the place of the line, from 0", x -> {
            fill(x, 0);
            due("the first one", 11, x.carried(0, 0));
            due("the last one: 5.00 less 4.00", 100, x.carried(0, 8));
            noSuchLine((y, bill, at) -> y.carried(bill, at));
        });
        holds("Returns it.", x -> {
            dueCarried("the first one alone", cut(0, UP, 1, 1, 1, 1, 1, 1, 1, 1, 1, 1), 1, 0, 0, 0, 0, 0, 0, 0, 0);
            dueCarried("all but the first one", cut(0, DOWN, 1, 9, 9, 9, 9, 9, 9, 9, 9, 9), 0, 1, 1, 1, 1, 1, 1, 1, 1);
            dueCarried("across 1", cut(0, UP, 1, 1, 10, -1), 1, 1, -1);
            dueCarried("off by all of the least money", cut(0, HALF_EVEN, 1, 5, 10, 10), 0, 2, 0);
            dueCarried("off by nearly two", cut(0, UP, 4, 1, -2, 2), 1, -2, 2);
            dueCarried("off by nearly two, down", cut(0, DOWN, 4, -9999, 19998), 0, 0);
            dueCarried("one line, below 0", cut(0, FLOOR, 1, -1), -1);
        });
        holds("Throws `IndexOutOfBoundsException` if there is no such bill or line", x -> {
            noSuchBill(x, bill -> x.carried(bill, 0));
            noSuchLine((y, bill, at) -> y.carried(bill, at));
        });
    }

    private void dueRanks(String what, Billwright x, long... want) {
        for (int i = 0; i < want.length; i++) {
            due(what + ", line " + i, want[i], x.rank(0, i));
        }
    }

    private void rank() {
        promise(19);
        holds("`bill`: 0 to 2", x -> {
            add(x, 0, 3, 1, 2);
            add(x, 2, 3, 2, 1);
            due("bill 0", 1, x.rank(0, 0));
            due("bill 2", 0, x.rank(2, 0));
            noSuchBill(x, bill -> x.rank(bill, 0));
        });
        holds("`at`: the place of the line, from 0", x -> {
            fill(x, 0);
            due("the first one", 8, x.rank(0, 0));
            due("the last one", 0, x.rank(0, 8));
            noSuchLine((y, bill, at) -> y.rank(bill, at));
        });
        holds("Returns the place, from 0.", x -> {
            dueRanks("one line", cut(0, DOWN, 0, 7), 0);
            dueRanks("nine like ones", cut(0, DOWN, 1, 3, 13, -7, 3, 23, -17, 3, 3, 3), 0, 1, 2, 3, 4, 5, 6, 7, 8);
            dueRanks("the other way round", cut(0, DOWN, 1, 1, 2, 3, 4, 5, 6, 7, 8, 9), 8, 7, 6, 5, 4, 3, 2, 1, 0);
            dueRanks("below 0", cut(0, DOWN, 4, -1, -9999, 0, 5000), 0, 2, 3, 1);
            x.cutBy(0, 0, UP);
            addAt(x, 0, 0, 5000, 4, 1);
            addAt(x, 0, 4041, 3561, 4, 1);
            addAt(x, 0, -2, 5001, 4, 1);
            dueRanks("more and less by a hundred-millionth", x, 1, 0, 2);
        });
        holds("Throws `IndexOutOfBoundsException` if there is no such bill or line", x -> {
            noSuchBill(x, bill -> x.rank(bill, 0));
            noSuchLine((y, bill, at) -> y.rank(bill, at));
        });
    }

    private void raised() {
        promise(20);
        holds("`bill`: 0 to 2", x -> {
            add(x, 0, 3, 6);
            add(x, 2, 3, 6, 6);
            due("bill 0", 1, x.raised(0));
            due("bill 1", 0, x.raised(1));
            due("bill 2", 1, x.raised(2));
            noSuchBill(x, bill -> x.raised(bill));
        });
        holds("Returns how many.", x -> {
            due("of none", 0, x.raised(0));
            due("none of nine", 0, cut(0, FLOOR, 1, 1, 1, 1, 1, 1, 1, 1, 1, 1).raised(0));
            due("one of nine", 1, cut(0, UP, 1, 1, 1, 1, 1, 1, 1, 1, 1, 1).raised(0));
            due("eight of nine", 8, cut(0, DOWN, 1, 9, 9, 9, 9, 9, 9, 9, 9, 9).raised(0));
            due("all of nine", 9, cut(0, UP, 1, 9, 9, 9, 9, 9, 9, 9, 9, 9).raised(0));
            due("all of nine, below 0", 9, cut(0, DOWN, 1, -1, -1, -1, -1, -1, -1, -1, -1, -1).raised(0));
            due("half, to the even one", 0, cut(0, HALF_EVEN, 1, 5).raised(0));
            due("half, up", 1, cut(0, HALF_UP, 1, 5).raised(0));
        });
        holds("Throws `IndexOutOfBoundsException` if there is no such bill", x -> {
            fill(x, 0);
            noSuchBill(x, bill -> x.raised(bill));
        });
    }

    private void gap() {
        promise(21);
        holds("`bill`: 0 to 2", x -> {
            add(x, 0, 3, 6, 6);
            add(x, 2, 3, 4, 4);
            due("bill 0", 1, x.gap(0));
            due("bill 1", 0, x.gap(1));
            due("bill 2", -1, x.gap(2));
            noSuchBill(x, bill -> x.gap(bill));
        });
        holds("Returns by how much, below 0 if it is less.", x -> {
            due("no lines", 0, x.gap(0));
            due("one line", 0, cut(0, UP, 1, 1).gap(0));
            due("the most", 8, cut(0, UP, 1, 1, 1, 1, 1, 1, 1, 1, 1, 1).gap(0));
            due("the least", -8, cut(0, DOWN, 1, 9, 9, 9, 9, 9, 9, 9, 9, 9).gap(0));
            due("the most by halves", 4, cut(0, HALF_UP, 1, 5, 5, 5, 5, 5, 5, 5, 5, 5).gap(0));
            due("the least by halves", -4, cut(0, HALF_DOWN, 1, 5, 5, 5, 5, 5, 5, 5, 5, 5).gap(0));
        });
        holds("Throws `IndexOutOfBoundsException` if there is no such bill", x -> {
            fill(x, 0);
            noSuchBill(x, bill -> x.gap(bill));
        });
    }

    private void off() {
        promise(22);
        holds("`bill`: 0 to 2", x -> {
            add(x, 0, 3, 6);
            add(x, 2, 3, 3);
            due("bill 0", 400000, x.off(0, ALONE));
            due("bill 2", 300000, x.off(2, ALONE));
            noSuchBill(x, bill -> x.off(bill, ALONE));
        });
        holds("`how`: as they are told: 0 alone, 1 by the greatest rests, 2 by carrying the rest along", x -> {
            Billwright up = cut(0, UP, 1, 1, -2, 1);
            due("alone: 0.9, 0.8 and 0.9", 260000000L, up.off(0, 0));
            due("by the greatest rests: 0.1, 0.2 and 0.1", 40000000L, up.off(0, 1));
            due("by carrying: 0.9, 1.8 and 0.9", 360000000L, up.off(0, 2));
            outside("how", x, ARGUMENT, 0, 2, how -> x.off(0, how));
        });
        holds("Returns how far, in hundred-millionths.", x -> {
            for (int how = ALONE; how <= CARRIED; how++) {
                due("no lines, how " + how, 0, x.off(0, how));
                due("no cut, how " + how, 0, cut(0, UP, 0, 1, -2, 3).off(0, how));
            }
            due("nearly nine", 9 * 99990000L, cut(0, UP, 4, 1, 1, 1, 1, 1, 1, 1, 1, 1).off(0, ALONE));
            due("nearly nine, below 0", 9 * 99990000L, cut(0, UP, 4, -1, -1, -1, -1, -1, -1, -1, -1, -1).off(0, ALONE));
            due("nearly two", 99990000L + 199980000L, cut(0, UP, 4, 1, -2).off(0, CARRIED));
            due("the least", 10001, lineOf(1, 1).off(0, ALONE));
        });
        holds("Throws `IndexOutOfBoundsException` if there is no such bill", x -> {
            fill(x, 0);
            noSuchBill(x, bill -> x.off(bill, 3));
        });
        holds("Throws `IllegalArgumentException` if there is no such way of telling", x -> {
            fill(x, 0);
            outside("how", x, ARGUMENT, 0, 2, how -> x.off(0, how));
            x.close(0, BY_RESTS);
            outside("how, closed,", x, ARGUMENT, 0, 2, how -> x.off(0, how));
        });
    }

    private static Billwright lineOf(int rate, int price) {
        Billwright x = new Billwright();
        addAt(x, 0, rate, price, 4, 1);
        return x;
    }
}
