import java.util.ArrayList;

/**
 * Bills that add up: the library's own BigDecimal and ArrayList, driven by their documented behaviour alone.
 *
 * <p>Every amount is a whole number of something small in a long: exact amounts in hundred-millionths, told ones in
 * the least money of their bill. All cutting is done by the one function {@code quotient}.
 */
public final class Billwright {
    private static final int MOST_LINES = 9;
    private static final int MOST_PLACES = 3;

    private static final int MOST_PRICE = 99999;
    private static final int MOST_DIGITS = 4;
    private static final int MOST_COUNT = 99;
    private static final int LEAST_RATE = -5000;
    private static final int MOST_RATE = 9999;
    private static final int MOST_MONEY_PRICE = 999;
    private static final int MOST_MONEY_DIGITS = 3;

    /** An exact amount has so many digits behind the point: 4 of the price, and 4 of the rate. */
    private static final int EXACT_DIGITS = 8;
    /** A rate is told in hundredths of a per cent, so the 1 that it is added to is so many. */
    private static final int RATE_ONE = 10000;

    private static final int WAY_UP = 0;
    private static final int WAY_DOWN = 1;
    private static final int WAY_CEILING = 2;
    private static final int WAY_FLOOR = 3;
    private static final int WAY_HALF_UP = 4;
    private static final int WAY_HALF_DOWN = 5;
    private static final int WAY_HALF_EVEN = 6;

    private static final int HOW_ALONE = 0;
    private static final int HOW_BY_RESTS = 1;
    private static final int HOW_CARRIED = 2;

    /** A bill that is not closed; one that is bears the HOW_ by which it was closed in its place. */
    private static final int NOT_CLOSED = 0;

    private final Bill[] bills = {new Bill(), new Bill(), new Bill()};

    public Billwright() {
    }

    // ---- bills ----

    public int cutBy(int bill, int places, int way)
            throws IndexOutOfBoundsException, IllegalArgumentException, IllegalStateException {
        Bill given = billAt(bill);
        checkPlaces(places);
        checkWay(way);
        checkOpen(given);
        return given.changeCut(places, way);
    }

    public char way(int bill) throws IndexOutOfBoundsException {
        switch (billAt(bill).way) {
            case WAY_UP:
                return 'U';
            case WAY_DOWN:
                return 'D';
            case WAY_CEILING:
                return 'C';
            case WAY_FLOOR:
                return 'F';
            case WAY_HALF_UP:
                return 'u';
            case WAY_HALF_DOWN:
                return 'd';
            default:
                return 'e';
        }
    }

    public int line(int bill, int at, int price, int digits, int count)
            throws IndexOutOfBoundsException, IllegalArgumentException, IllegalStateException {
        Bill given = billAt(bill);
        checkGapBetweenLines(given, at);
        checkPrice(price, digits, count);
        checkOpen(given);
        checkRoom(given, 1);
        given.lines.add(at, new Line(price, digits, count, 0));
        return given.lines.size();
    }

    public int rate(int bill, int at, int rate)
            throws IndexOutOfBoundsException, IllegalArgumentException, IllegalStateException {
        Bill given = billAt(bill);
        checkLine(given, at);
        checkLineRate(rate);
        checkOpen(given);
        Line before = given.lines.get(at);
        given.lines.set(at, new Line(before.price, before.digits, before.count, rate));
        return before.rate;
    }

    public int remove(int bill, int at) throws IndexOutOfBoundsException, IllegalStateException {
        Bill given = billAt(bill);
        checkLine(given, at);
        checkOpen(given);
        given.lines.remove(at);
        return given.lines.size();
    }

    public int move(int bill, int from, int to) throws IndexOutOfBoundsException, IllegalStateException {
        Bill given = billAt(bill);
        checkLine(given, from);
        checkLine(given, to);
        checkOpen(given);
        given.lines.add(to, given.lines.remove(from));
        return from == to ? 0 : Math.abs(from - to) + 1;
    }

    public int sort(int bill) throws IndexOutOfBoundsException, IllegalStateException {
        Bill given = billAt(bill);
        checkOpen(given);
        int elsewhere = given.countOutOfOrder();
        given.putInOrder();
        return elsewhere;
    }

    public int split(int bill, int at, int to)
            throws IndexOutOfBoundsException, IllegalArgumentException, IllegalStateException {
        Bill source = billAt(bill);
        Bill target = billAt(to);
        checkGapBetweenLines(source, at);
        if (bill == to) {
            throw new IllegalArgumentException("a bill is not split into itself");
        }
        int moved = source.lines.size() - at;
        checkOpen(source);
        checkOpen(target);
        checkRoom(target, moved);
        for (int i = 0; i < moved; i++) {
            target.lines.add(source.lines.remove(at));
        }
        return target.lines.size();
    }

    public int copy(int bill, int to) throws IndexOutOfBoundsException, IllegalStateException {
        Bill source = billAt(bill);
        Bill target = billAt(to);
        checkOpen(target);
        if (bill != to) {
            target.takeOver(source);
        }
        return target.lines.size();
    }

    public int lines(int bill) throws IndexOutOfBoundsException {
        return billAt(bill).lines.size();
    }

    public boolean isSame(int bill, int other) throws IndexOutOfBoundsException {
        return billAt(bill).hasLinesOf(billAt(other));
    }

    // ---- amounts ----

    public long exact(int bill, int at) throws IndexOutOfBoundsException {
        Bill given = billAt(bill);
        checkLine(given, at);
        return given.lines.get(at).exact;
    }

    public long whole(int bill) throws IndexOutOfBoundsException {
        Bill given = billAt(bill);
        return given.sumOfFirst(given.lines.size());
    }

    public long total(int bill) throws IndexOutOfBoundsException {
        return billAt(bill).cutWhole();
    }

    public long alone(int bill, int at) throws IndexOutOfBoundsException {
        Bill given = billAt(bill);
        checkLine(given, at);
        return given.aloneAt(at);
    }

    public long byRests(int bill, int at) throws IndexOutOfBoundsException {
        Bill given = billAt(bill);
        checkLine(given, at);
        return given.byRestsAt(at);
    }

    public long carried(int bill, int at) throws IndexOutOfBoundsException {
        Bill given = billAt(bill);
        checkLine(given, at);
        return given.carriedAt(at);
    }

    public int rank(int bill, int at) throws IndexOutOfBoundsException {
        Bill given = billAt(bill);
        checkLine(given, at);
        return given.rankAt(at);
    }

    public int raised(int bill) throws IndexOutOfBoundsException {
        return billAt(bill).countRaised();
    }

    public long gap(int bill) throws IndexOutOfBoundsException {
        Bill given = billAt(bill);
        return given.sumAs(HOW_ALONE) - given.cutWhole();
    }

    public long off(int bill, int how) throws IndexOutOfBoundsException, IllegalArgumentException {
        Bill given = billAt(bill);
        if (how < HOW_ALONE || how > HOW_CARRIED) {
            throw new IllegalArgumentException("no such way of telling");
        }
        return given.offAs(how);
    }

    // ---- closed bills ----

    public int close(int bill, int how)
            throws IndexOutOfBoundsException, IllegalArgumentException, IllegalStateException {
        Bill given = billAt(bill);
        if (how < HOW_BY_RESTS || how > HOW_CARRIED) {
            throw new IllegalArgumentException("no such way of telling");
        }
        checkOpen(given);
        given.tellAndKeep(how);
        return given.countKeptOtherwiseThan(HOW_ALONE);
    }

    public long told(int bill, int at) throws IndexOutOfBoundsException, IllegalStateException {
        Bill given = billAt(bill);
        checkLine(given, at);
        checkClosed(given);
        return given.lines.get(at).told;
    }

    public long correct(int bill, int at, int price, int digits, int count)
            throws IndexOutOfBoundsException, IllegalArgumentException, IllegalStateException {
        Bill given = billAt(bill);
        checkLine(given, at);
        checkPrice(price, digits, count);
        checkClosed(given);
        Line corrected = new Line(price, digits, count, given.lines.get(at).rate);
        given.lines.set(at, corrected);
        // The new line is told 0 so far, so what is kept is the sum of the other lines alone.
        corrected.told = given.cutWhole() - given.sumKept();
        return corrected.told;
    }

    public int open(int bill) throws IndexOutOfBoundsException, IllegalStateException {
        Bill given = billAt(bill);
        checkClosed(given);
        int otherwise = given.countKeptOtherwiseThan(given.closedHow);
        given.forgetTold();
        return otherwise;
    }

    // ---- taxes ----

    public long onTop(int net, int rate, int way) throws IllegalArgumentException {
        checkTaxRate(rate);
        checkWay(way);
        return withTax(net, rate, way);
    }

    public long within(int gross, int rate, int way) throws IllegalArgumentException {
        checkTaxRate(rate);
        checkWay(way);
        return withoutTax(gross, rate, way);
    }

    public int undone(int net, int rate, int top, int out) throws IllegalArgumentException {
        checkTaxRate(rate);
        checkWay(top);
        checkWay(out);
        return (int) (withoutTax(withTax(net, rate, top), rate, out) - net);
    }

    public int redone(int gross, int rate, int out, int top) throws IllegalArgumentException {
        checkTaxRate(rate);
        checkWay(out);
        checkWay(top);
        return (int) (withTax(withoutTax(gross, rate, out), rate, top) - gross);
    }

    // ---- another money ----

    public long abroad(int bill, int at, int price, int digits, int places)
            throws IndexOutOfBoundsException, IllegalArgumentException {
        Bill given = billAt(bill);
        checkLine(given, at);
        checkMoney(price, digits, places);
        return inMoneyThere(given, given.aloneAt(at), price, digits, places);
    }

    public int home(int bill, int at, int price, int digits, int places)
            throws IndexOutOfBoundsException, IllegalArgumentException {
        Bill given = billAt(bill);
        checkLine(given, at);
        checkMoney(price, digits, places);
        long here = given.aloneAt(at);
        long there = inMoneyThere(given, here, price, digits, places);
        long back = quotient(there * hereInMoneyThere(given, digits), thereInMoneyHere(price, places), given.way);
        return (int) (back - here);
    }

    public int bound(int bill, int price, int digits, int places)
            throws IndexOutOfBoundsException, IllegalArgumentException {
        Bill given = billAt(bill);
        checkMoney(price, digits, places);
        long dividend = hereInMoneyThere(given, digits);
        long divisor = thereInMoneyHere(price, places);
        if (isByHalves(given.way)) {
            return (int) quotient(dividend + divisor, 2 * divisor, WAY_FLOOR);
        }
        return (int) quotient(dividend, divisor, WAY_CEILING);
    }

    // ---- all of them ----

    public double share(int bill, int at) throws IndexOutOfBoundsException, ArithmeticException {
        Bill given = billAt(bill);
        checkLine(given, at);
        long all = given.cutWhole();
        if (all == 0) {
            throw new ArithmeticException("the total is 0");
        }
        return (double) given.byRestsAt(at) / (double) all;
    }

    public float raisedShare() throws ArithmeticException {
        int more = 0;
        int all = 0;
        for (int i = 0; i < bills.length; i++) {
            more += bills[i].countRaised();
            all += bills[i].lines.size();
        }
        if (all == 0) {
            throw new ArithmeticException("there are no lines");
        }
        return (float) more / (float) all;
    }

    public long checksum() {
        long sum = 17;
        for (int i = 0; i < bills.length; i++) {
            sum = bills[i].addTo(sum);
        }
        return sum;
    }

    public boolean isSound(int bill) throws IndexOutOfBoundsException {
        Bill given = billAt(bill);
        long all = given.cutWhole();
        return given.sumAs(HOW_BY_RESTS) == all
                && given.sumAs(HOW_CARRIED) == all
                && (given.closedHow == NOT_CLOSED || given.sumKept() == all)
                && given.isNearByRests()
                && given.isNearCarried()
                && given.offAs(HOW_BY_RESTS) <= given.offAs(HOW_CARRIED);
    }

    // ---- what calls are refused ----

    private Bill billAt(int bill) {
        if (bill < 0 || bill >= bills.length) {
            throw new IndexOutOfBoundsException("no such bill");
        }
        return bills[bill];
    }

    private static void checkLine(Bill bill, int at) {
        if (at < 0 || at >= bill.lines.size()) {
            throw new IndexOutOfBoundsException("no such line");
        }
    }

    /** A place ahead of a line or behind all, so there is one more than there are lines. */
    private static void checkGapBetweenLines(Bill bill, int at) {
        if (at < 0 || at > bill.lines.size()) {
            throw new IndexOutOfBoundsException("no such place");
        }
    }

    private static void checkPlaces(int places) {
        if (places < 0 || places > MOST_PLACES) {
            throw new IllegalArgumentException("the places are out of range");
        }
    }

    private static void checkWay(int way) {
        if (way < WAY_UP || way > WAY_HALF_EVEN) {
            throw new IllegalArgumentException("the way is out of range");
        }
    }

    private static void checkPrice(int price, int digits, int count) {
        if (price < -MOST_PRICE || price > MOST_PRICE) {
            throw new IllegalArgumentException("the price is out of range");
        }
        if (digits < 0 || digits > MOST_DIGITS) {
            throw new IllegalArgumentException("the digits are out of range");
        }
        if (count < -MOST_COUNT || count > MOST_COUNT) {
            throw new IllegalArgumentException("the count is out of range");
        }
    }

    private static void checkLineRate(int rate) {
        if (rate < LEAST_RATE || rate > MOST_RATE) {
            throw new IllegalArgumentException("the rate is out of range");
        }
    }

    private static void checkTaxRate(int rate) {
        if (rate < 0 || rate > MOST_RATE) {
            throw new IllegalArgumentException("the rate is out of range");
        }
    }

    private static void checkMoney(int price, int digits, int places) {
        if (price < 1 || price > MOST_MONEY_PRICE) {
            throw new IllegalArgumentException("the price is out of range");
        }
        if (digits < 0 || digits > MOST_MONEY_DIGITS) {
            throw new IllegalArgumentException("the digits are out of range");
        }
        checkPlaces(places);
    }

    private static void checkOpen(Bill bill) {
        if (bill.closedHow != NOT_CLOSED) {
            throw new IllegalStateException("the bill is closed");
        }
    }

    private static void checkClosed(Bill bill) {
        if (bill.closedHow == NOT_CLOSED) {
            throw new IllegalStateException("the bill is open");
        }
    }

    private static void checkRoom(Bill bill, int more) {
        if (bill.lines.size() + more > MOST_LINES) {
            throw new IllegalStateException("the bill has no room for the lines");
        }
    }

    // ---- numbers ----

    private static long powerOfTen(int exponent) {
        long power = 1;
        for (int i = 0; i < exponent; i++) {
            power *= 10;
        }
        return power;
    }

    private static boolean isByHalves(int way) {
        return way == WAY_HALF_UP || way == WAY_HALF_DOWN || way == WAY_HALF_EVEN;
    }

    /** The dividend over the divisor, cut by a way to a whole number; 0 for a divisor that no caller has. */
    private static long quotient(long dividend, long divisor, int way) {
        if (divisor <= 0) {
            return 0;
        }
        long floor = Math.floorDiv(dividend, divisor);
        long rest = dividend - floor * divisor;
        if (rest == 0) {
            return floor;
        }
        return goesUp(dividend, floor, 2 * rest - divisor, way) ? floor + 1 : floor;
    }

    /** What a dividend is more than the divisor times its quotient to the floor; 0 for a divisor that no caller has. */
    private static long restOf(long dividend, long divisor) {
        return divisor <= 0 ? 0 : Math.floorMod(dividend, divisor);
    }

    /**
     * Whether a number that needs a cut goes to the whole number above its floor. Where it lies between the two is
     * told by pastHalf: below 0 nearer to the floor, 0 half way, above 0 nearer to the one above.
     */
    private static boolean goesUp(long dividend, long floor, long pastHalf, int way) {
        switch (way) {
            case WAY_UP:
                return dividend > 0;
            case WAY_DOWN:
                return dividend < 0;
            case WAY_CEILING:
                return true;
            case WAY_FLOOR:
                return false;
            case WAY_HALF_UP:
                return pastHalf > 0 || (pastHalf == 0 && dividend > 0);
            case WAY_HALF_DOWN:
                return pastHalf > 0 || (pastHalf == 0 && dividend < 0);
            default:
                return pastHalf > 0 || (pastHalf == 0 && (floor & 1) != 0);
        }
    }

    private static long withTax(long net, int rate, int way) {
        return quotient(net * (RATE_ONE + rate), RATE_ONE, way);
    }

    private static long withoutTax(long gross, int rate, int way) {
        return quotient(gross * RATE_ONE, RATE_ONE + rate, way);
    }

    // The least money there is worth hereInMoneyThere / thereInMoneyHere of the least money here. Both are whole
    // numbers, so that an amount is cut once only, however the price divides.

    private static long hereInMoneyThere(Bill bill, int digits) {
        return powerOfTen(bill.places + digits);
    }

    private static long thereInMoneyHere(int price, int places) {
        return price * powerOfTen(places);
    }

    private static long inMoneyThere(Bill bill, long amount, int price, int digits, int places) {
        return quotient(amount * thereInMoneyHere(price, places), hereInMoneyThere(bill, digits), bill.way);
    }

    /** A line; but for the amount that is kept of it in a closed bill it never changes. */
    private static final class Line {
        final int price;
        final int digits;
        final int count;
        final int rate;
        /** The price in ten-thousandths: like for prices of the same size, however many digits they have. */
        final long size;
        /** In hundred-millionths. */
        final long exact;
        /** In the least money of the bill; 0 while the bill is open. */
        long told;

        Line(int price, int digits, int count, int rate) {
            this.price = price;
            this.digits = digits;
            this.count = count;
            this.rate = rate;
            this.size = price * powerOfTen(MOST_DIGITS - digits);
            this.exact = this.size * count * (RATE_ONE + rate);
        }

        boolean isLike(Line other) {
            return size == other.size && count == other.count && rate == other.rate;
        }
    }

    /** A bill; whoever calls its functions has looked whether there is such a line, and whether it is open. */
    private static final class Bill {
        final ArrayList<Line> lines = new ArrayList<>();
        int places = 2;
        int way = WAY_HALF_EVEN;
        int closedHow = NOT_CLOSED;
        /** The least money, in hundred-millionths. */
        long least = powerOfTen(EXACT_DIGITS - places);

        int changeCut(int newPlaces, int newWay) {
            long newLeast = powerOfTen(EXACT_DIGITS - newPlaces);
            int changed = 0;
            for (int i = 0; i < lines.size(); i++) {
                long exact = lines.get(i).exact;
                if (quotient(exact, least, way) * least != quotient(exact, newLeast, newWay) * newLeast) {
                    changed++;
                }
            }
            places = newPlaces;
            way = newWay;
            least = newLeast;
            return changed;
        }

        void takeOver(Bill other) {
            places = other.places;
            way = other.way;
            least = other.least;
            lines.clear();
            for (int i = 0; i < other.lines.size(); i++) {
                Line line = other.lines.get(i);
                lines.add(new Line(line.price, line.digits, line.count, line.rate));
            }
        }

        boolean hasLinesOf(Bill other) {
            if (lines.size() != other.lines.size()) {
                return false;
            }
            for (int i = 0; i < lines.size() && i < other.lines.size(); i++) {
                if (!lines.get(i).isLike(other.lines.get(i))) {
                    return false;
                }
            }
            return true;
        }

        int countOutOfOrder() {
            int elsewhere = 0;
            for (int i = 0; i < lines.size(); i++) {
                if (placeInOrder(i) != i) {
                    elsewhere++;
                }
            }
            return elsewhere;
        }

        /** Where a line stands among all, the least exact amount first, of like ones the earlier line. */
        private int placeInOrder(int at) {
            long exact = lines.get(at).exact;
            int ahead = 0;
            for (int i = 0; i < lines.size(); i++) {
                long other = lines.get(i).exact;
                if (other < exact || (other == exact && i < at)) {
                    ahead++;
                }
            }
            return ahead;
        }

        void putInOrder() {
            for (int i = 1; i < lines.size(); i++) {
                int to = i;
                while (to > 0 && lines.get(to - 1).exact > lines.get(i).exact) {
                    to--;
                }
                lines.add(to, lines.remove(i));
            }
        }

        long sumOfFirst(int number) {
            long sum = 0;
            for (int i = 0; i < number && i < lines.size(); i++) {
                sum += lines.get(i).exact;
            }
            return sum;
        }

        long cutWhole() {
            return quotient(sumOfFirst(lines.size()), least, way);
        }

        long aloneAt(int at) {
            return quotient(lines.get(at).exact, least, way);
        }

        int rankAt(int at) {
            long rest = restOf(lines.get(at).exact, least);
            int ahead = 0;
            for (int i = 0; i < lines.size(); i++) {
                long other = restOf(lines.get(i).exact, least);
                if (other > rest || (other == rest && i < at)) {
                    ahead++;
                }
            }
            return ahead;
        }

        int countRaised() {
            long whole = 0;
            long floors = 0;
            for (int i = 0; i < lines.size(); i++) {
                whole += lines.get(i).exact;
                floors += quotient(lines.get(i).exact, least, WAY_FLOOR);
            }
            return (int) (quotient(whole, least, way) - floors);
        }

        long byRestsAt(int at) {
            long floor = quotient(lines.get(at).exact, least, WAY_FLOOR);
            return rankAt(at) < countRaised() ? floor + 1 : floor;
        }

        long carriedAt(int at) {
            return quotient(sumOfFirst(at + 1), least, way) - quotient(sumOfFirst(at), least, way);
        }

        private long amountAs(int how, int at) {
            switch (how) {
                case HOW_BY_RESTS:
                    return byRestsAt(at);
                case HOW_CARRIED:
                    return carriedAt(at);
                default:
                    return aloneAt(at);
            }
        }

        long sumAs(int how) {
            long sum = 0;
            for (int i = 0; i < lines.size(); i++) {
                sum += amountAs(how, i);
            }
            return sum;
        }

        /** How far off a line is, told as an amount. */
        private long offAt(int at, long amount) {
            return Math.abs(lines.get(at).exact - amount * least);
        }

        long offAs(int how) {
            long sum = 0;
            for (int i = 0; i < lines.size(); i++) {
                sum += offAt(i, amountAs(how, i));
            }
            return sum;
        }

        void tellAndKeep(int how) {
            for (int i = 0; i < lines.size(); i++) {
                lines.get(i).told = amountAs(how, i);
            }
            closedHow = how;
        }

        void forgetTold() {
            for (int i = 0; i < lines.size(); i++) {
                lines.get(i).told = 0;
            }
            closedHow = NOT_CLOSED;
        }

        int countKeptOtherwiseThan(int how) {
            int otherwise = 0;
            for (int i = 0; i < lines.size(); i++) {
                if (lines.get(i).told != amountAs(how, i)) {
                    otherwise++;
                }
            }
            return otherwise;
        }

        long sumKept() {
            long sum = 0;
            for (int i = 0; i < lines.size(); i++) {
                sum += lines.get(i).told;
            }
            return sum;
        }

        boolean isNearByRests() {
            for (int i = 0; i < lines.size(); i++) {
                long limit = restOf(lines.get(i).exact, least) == 0 ? 1 : least;
                if (offAt(i, byRestsAt(i)) >= limit) {
                    return false;
                }
            }
            return true;
        }

        boolean isNearCarried() {
            long limit = carriedLimit();
            for (int i = 0; i < lines.size(); i++) {
                if (offAt(i, carriedAt(i)) >= limit) {
                    return false;
                }
            }
            return true;
        }

        /** A line that is carried is off by less than this; by halves it may be off by all of the least money. */
        private long carriedLimit() {
            if (way == WAY_CEILING || way == WAY_FLOOR) {
                return least;
            }
            return isByHalves(way) ? least + 1 : 2 * least;
        }

        long addTo(long start) {
            long sum = start;
            sum = sum * 31 + places;
            sum = sum * 31 + way;
            sum = sum * 31 + closedHow;
            sum = sum * 31 + lines.size();
            for (int i = 0; i < lines.size(); i++) {
                Line line = lines.get(i);
                sum = sum * 31 + line.price;
                sum = sum * 31 + line.digits;
                sum = sum * 31 + line.count;
                sum = sum * 31 + line.rate;
                sum = sum * 31 + line.told;
            }
            return sum;
        }
    }
}
