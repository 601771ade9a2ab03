/** What the theorem of the document says, looked at from outside, on many bills and amounts; each time the same. */
public final class TheoremTest {
    private static final int BILLS = 4000;
    private static final int UP = 0;
    private static final int DOWN = 1;
    private static final int CEILING = 2;
    private static final int FLOOR = 3;
    private static final int HALF_UP = 4;
    private static final int HALF_EVEN = 6;

    private final Check check = new Check();
    private long seed = 11;

    private TheoremTest() {
    }

    public static void main(String[] args) {
        TheoremTest test = new TheoremTest();
        for (int i = 0; i < BILLS; i++) {
            test.checkBill(i);
            test.checkCorrection(i);
            test.checkAnotherMoney(i);
        }
        test.checkTaxes();
        test.check.end();
    }

    private int next(int least, int most) {
        seed = seed * 6364136223846793005L + 1442695040888963407L;
        return (int) (least + Math.floorMod(seed >>> 33, (long) most - least + 1));
    }

    private static long least(int places) {
        return new long[] {100000000L, 10000000L, 1000000L, 100000L}[places];
    }

    /** Small bills mostly, of coarse prices, so that rests are like and amounts lie half way. */
    private Billwright anyBill(int lines, int places, int way) {
        Billwright x = new Billwright();
        x.cutBy(0, places, way);
        for (int i = 0; i < lines; i++) {
            addAnyLine(x, 0);
        }
        return x;
    }

    private void addAnyLine(Billwright x, int bill) {
        int at = x.lines(bill);
        boolean coarse = next(0, 2) != 0;
        int price = coarse ? next(-30, 30) : next(-99999, 99999);
        x.line(bill, at, price, next(0, 4), coarse ? next(-2, 2) : next(-99, 99));
        x.rate(bill, at, coarse ? 500 * next(-2, 4) : next(-5000, 9999));
    }

    private void checkBill(int number) {
        int places = next(0, 3);
        int way = next(UP, HALF_EVEN);
        Billwright x = anyBill(next(0, 5), places, way);
        String what = "bill " + number + ", places " + places + ", way " + way + ", ";
        long least = least(places);
        long byRests = 0;
        long carried = 0;
        for (int i = 0; i < x.lines(0); i++) {
            byRests += x.byRests(0, i);
            carried += x.carried(0, i);
            long exact = x.exact(0, i);
            long off = Math.abs(x.byRests(0, i) * least - exact);
            check.due(what + "by rests off by less than one", true, off < least);
            check.due(what + "by rests as it is if it needs no cut", true, exact % least != 0 || off == 0);
            long limit = way == CEILING || way == FLOOR ? least : way >= HALF_UP ? least + 1 : 2 * least;
            check.due(what + "carried near", true, Math.abs(x.carried(0, i) * least - exact) < limit);
        }
        check.due(what + "by rests adds up", x.total(0), byRests);
        check.due(what + "carried adds up", x.total(0), carried);
        check.due(what + "is sound", true, x.isSound(0));
        check.due(what + "by rests is off by the least", leastOff(exacts(x), 0, x.total(0), least), x.off(0, 1));
        checkCarriedStays(what, x);
    }

    private static long[] exacts(Billwright x) {
        long[] exacts = new long[x.lines(0)];
        for (int i = 0; i < exacts.length; i++) {
            exacts[i] = x.exact(0, i);
        }
        return exacts;
    }

    /** Of all rows that add up to what is left, from a line on, the one that is off by the least. */
    private static long leastOff(long[] exacts, int from, long left, long least) {
        if (from == exacts.length) {
            return left == 0 ? 0 : Long.MAX_VALUE / 2;
        }
        long floor = Math.floorDiv(exacts[from], least);
        long best = Long.MAX_VALUE / 2;
        for (long amount = floor - 2; amount <= floor + 3; amount++) {
            long off = Math.abs(amount * least - exacts[from]);
            best = Math.min(best, off + leastOff(exacts, from + 1, left - amount, least));
        }
        return best;
    }

    private void checkCarriedStays(String what, Billwright x) {
        long[] before = new long[x.lines(0)];
        for (int i = 0; i < before.length; i++) {
            before[i] = x.carried(0, i);
        }
        addAnyLine(x, 0);
        for (int i = 0; i < before.length; i++) {
            check.due(what + "carried does not hang on lines behind", before[i], x.carried(0, i));
        }
    }

    private void checkCorrection(int number) {
        int places = next(0, 3);
        Billwright x = anyBill(next(1, 9), places, next(UP, HALF_EVEN));
        int lines = x.lines(0);
        int at = next(0, lines - 1);
        x.close(0, next(1, 2));
        long[] before = new long[lines];
        for (int i = 0; i < lines; i++) {
            before[i] = x.told(0, i);
        }
        long lineOff = x.told(0, at) * least(places) - x.exact(0, at);
        long totalOff = x.total(0) * least(places) - x.whole(0);
        x.correct(0, at, next(-99999, 99999), next(0, 4), next(-99, 99));
        String what = "correction " + number + ", ";
        long sum = 0;
        for (int i = 0; i < lines; i++) {
            sum += x.told(0, i);
            check.due(what + "others stay", true, i == at || x.told(0, i) == before[i]);
        }
        check.due(what + "adds up", x.total(0), sum);
        check.due(what + "off by as much more as the total", x.total(0) * least(places) - x.whole(0) - totalOff,
                x.told(0, at) * least(places) - x.exact(0, at) - lineOff);
        check.due(what + "is sound", true, x.isSound(0));
        correctBack(what, places);
    }

    private void correctBack(String what, int places) {
        Billwright x = new Billwright();
        x.cutBy(0, places, next(UP, HALF_EVEN));
        int price = next(-999, 999);
        addAnyLine(x, 0);
        x.line(0, 1, price, 4, 7);
        x.rate(0, 1, 1234);
        addAnyLine(x, 0);
        x.close(0, next(1, 2));
        long before = x.checksum();
        x.correct(0, 1, next(-99999, 99999), next(0, 4), next(-99, 99));
        x.correct(0, 1, price, 4, 7);
        check.due(what + "corrected back", before, x.checksum());
    }

    private void checkAnotherMoney(int number) {
        int way = next(UP, HALF_EVEN);
        int here = next(0, 3);
        Billwright x = anyBill(1, here, way);
        int price = next(1, 999);
        int digits = next(0, 3);
        int there = next(0, 3);
        String what = "money " + number + ", ";
        int home = x.home(0, 0, price, digits, there);
        int bound = x.bound(0, price, digits, there);
        check.due(what + "home within bound", true, Math.abs(home) <= bound);
        boolean isLess = Math.pow(10, here + digits) < price * Math.pow(10, there);
        check.due(what + "by halves nothing", true, way < HALF_UP || !isLess || (home == 0 && bound == 0));
    }

    private void checkTaxes() {
        int[] rates = {0, 1, 500, 700, 1900, 2000, 3333, 5000, 9998, 9999};
        for (int rate : rates) {
            for (int i = 0; i < 60; i++) {
                int amount = i < 40 ? i - 20 : next(Integer.MIN_VALUE, Integer.MAX_VALUE);
                for (int one = UP; one <= HALF_EVEN; one++) {
                    for (int two = UP; two <= HALF_EVEN; two++) {
                        checkTax(amount, rate, one, two);
                    }
                }
            }
        }
    }

    private void checkTax(int amount, int rate, int one, int two) {
        Billwright x = new Billwright();
        String what = amount + " at " + rate + " by " + one + " and " + two + ", ";
        boolean halves = one >= HALF_UP && two >= HALF_UP;
        boolean against = (one == CEILING && two == FLOOR) || (one == FLOOR && two == CEILING)
                || (one == UP && two == DOWN) || (one == DOWN && two == UP);
        check.due(what + "undone", true, Math.abs(x.undone(amount, rate, one, two)) <= (halves || against ? 0 : 1));
        check.due(what + "redone", true, Math.abs(x.redone(amount, rate, one, two)) <= (halves ? 1 : 2));
    }
}
