import java.math.BigDecimal;
import java.math.RoundingMode;
import java.util.ArrayList;
import java.util.Comparator;
import java.util.List;

/**
 * What the document says, written a second time and in another manner: with BigDecimal and its rounding, records and
 * lists that are sorted. {@link RunTest} compares it with the program, and asks nothing of it that is to be refused.
 */
final class BigBills {
    static final RoundingMode[] WAYS = {
        RoundingMode.UP, RoundingMode.DOWN, RoundingMode.CEILING, RoundingMode.FLOOR,
        RoundingMode.HALF_UP, RoundingMode.HALF_DOWN, RoundingMode.HALF_EVEN,
    };
    private static final BigDecimal RATE_ONE = BigDecimal.valueOf(10000);

    /** A line, told apart from others that are equal by its number. */
    record Entry(BigDecimal price, int count, int rate, int number) {
        BigDecimal exact() {
            return price.multiply(BigDecimal.valueOf(count)).multiply(BigDecimal.valueOf(10000 + rate, 4));
        }

        boolean isLike(Entry other) {
            return price.compareTo(other.price) == 0 && count == other.count && rate == other.rate;
        }
    }

    static final class One {
        int places = 2;
        int way = 6;
        int closed = 0;
        List<Entry> entries = new ArrayList<>();
        List<BigDecimal> told = new ArrayList<>();
    }

    final One[] bills = {new One(), new One(), new One()};
    private int numbers = 0;

    private static BigDecimal cut(BigDecimal amount, One bill) {
        return amount.setScale(bill.places, WAYS[bill.way]);
    }

    private static BigDecimal sum(List<BigDecimal> amounts) {
        return amounts.stream().reduce(BigDecimal.ZERO, BigDecimal::add);
    }

    static List<BigDecimal> exacts(One bill) {
        return new ArrayList<>(bill.entries.stream().map(Entry::exact).toList());
    }

    static BigDecimal whole(One bill) {
        return sum(exacts(bill));
    }

    static BigDecimal total(One bill) {
        return cut(whole(bill), bill);
    }

    static List<BigDecimal> amounts(One bill, int how) {
        return how == 0 ? alone(bill) : how == 1 ? byRests(bill) : carried(bill);
    }

    private static List<BigDecimal> alone(One bill) {
        return new ArrayList<>(exacts(bill).stream().map(e -> cut(e, bill)).toList());
    }

    private static BigDecimal floor(BigDecimal exact, One bill) {
        return exact.setScale(bill.places, RoundingMode.FLOOR);
    }

    /** The places of the lines, the one with the greatest rest first. */
    static List<Integer> byRank(One bill) {
        List<Integer> order = new ArrayList<>();
        for (int i = 0; i < bill.entries.size(); i++) {
            order.add(i);
        }
        List<BigDecimal> exact = exacts(bill);
        Comparator<Integer> byRest = Comparator.comparing(i -> exact.get(i).subtract(floor(exact.get(i), bill)));
        order.sort(byRest.reversed());
        return order;
    }

    private static List<BigDecimal> byRests(One bill) {
        List<BigDecimal> row = new ArrayList<>(exacts(bill).stream().map(e -> floor(e, bill)).toList());
        BigDecimal least = BigDecimal.ONE.movePointLeft(bill.places);
        for (int i : byRank(bill)) {
            if (sum(row).compareTo(total(bill)) < 0) {
                row.set(i, row.get(i).add(least));
            }
        }
        return row;
    }

    static int raised(One bill) {
        int count = 0;
        List<BigDecimal> row = byRests(bill);
        for (int i = 0; i < row.size(); i++) {
            count += row.get(i).compareTo(floor(exacts(bill).get(i), bill)) != 0 ? 1 : 0;
        }
        return count;
    }

    private static List<BigDecimal> carried(One bill) {
        List<BigDecimal> row = new ArrayList<>();
        for (int i = 0; i < bill.entries.size(); i++) {
            BigDecimal ahead = sum(exacts(bill).subList(0, i));
            BigDecimal upTo = sum(exacts(bill).subList(0, i + 1));
            row.add(cut(upTo, bill).subtract(cut(ahead, bill)));
        }
        return row;
    }

    static BigDecimal off(One bill, int how) {
        BigDecimal off = BigDecimal.ZERO;
        for (int i = 0; i < bill.entries.size(); i++) {
            off = off.add(exacts(bill).get(i).subtract(amounts(bill, how).get(i)).abs());
        }
        return off;
    }

    static int unlike(List<BigDecimal> row, List<BigDecimal> other) {
        int count = 0;
        for (int i = 0; i < row.size(); i++) {
            count += row.get(i).compareTo(other.get(i)) != 0 ? 1 : 0;
        }
        return count;
    }

    private static int elsewhere(List<Entry> before, List<Entry> after) {
        int count = 0;
        for (int i = 0; i < before.size(); i++) {
            count += before.get(i).number() != after.get(i).number() ? 1 : 0;
        }
        return count;
    }

    int cutBy(int bill, int places, int way) {
        One one = bills[bill];
        List<BigDecimal> before = alone(one);
        one.places = places;
        one.way = way;
        return unlike(before, alone(one));
    }

    int line(int bill, int at, int price, int digits, int count) {
        bills[bill].entries.add(at, new Entry(BigDecimal.valueOf(price, digits), count, 0, numbers++));
        return bills[bill].entries.size();
    }

    int rate(int bill, int at, int rate) {
        Entry old = bills[bill].entries.get(at);
        bills[bill].entries.set(at, new Entry(old.price(), old.count(), rate, old.number()));
        return old.rate();
    }

    int move(int bill, int from, int to) {
        List<Entry> before = new ArrayList<>(bills[bill].entries);
        Entry moved = bills[bill].entries.remove(from);
        bills[bill].entries.add(to, moved);
        return elsewhere(before, bills[bill].entries);
    }

    int sort(int bill) {
        List<Entry> before = new ArrayList<>(bills[bill].entries);
        bills[bill].entries.sort(Comparator.comparing(Entry::exact));
        return elsewhere(before, bills[bill].entries);
    }

    int split(int bill, int at, int to) {
        List<Entry> tail = bills[bill].entries.subList(at, bills[bill].entries.size());
        bills[to].entries.addAll(tail);
        tail.clear();
        return bills[to].entries.size();
    }

    int copy(int bill, int to) {
        bills[to].places = bills[bill].places;
        bills[to].way = bills[bill].way;
        List<Entry> copies = new ArrayList<>();
        for (Entry entry : bills[bill].entries) {
            copies.add(new Entry(entry.price(), entry.count(), entry.rate(), numbers++));
        }
        bills[to].entries = copies;
        return copies.size();
    }

    boolean isSame(int bill, int other) {
        List<Entry> one = bills[bill].entries;
        List<Entry> two = bills[other].entries;
        boolean same = one.size() == two.size();
        for (int i = 0; same && i < one.size(); i++) {
            same = one.get(i).isLike(two.get(i));
        }
        return same;
    }

    int close(int bill, int how) {
        One one = bills[bill];
        one.closed = how;
        one.told = amounts(one, how);
        return unlike(one.told, alone(one));
    }

    BigDecimal correct(int bill, int at, int price, int digits, int count) {
        One one = bills[bill];
        Entry old = one.entries.get(at);
        one.entries.set(at, new Entry(BigDecimal.valueOf(price, digits), count, old.rate(), old.number()));
        one.told.set(at, BigDecimal.ZERO);
        one.told.set(at, total(one).subtract(sum(one.told)));
        return one.told.get(at);
    }

    int open(int bill) {
        One one = bills[bill];
        int unlike = unlike(one.told, amounts(one, one.closed));
        one.closed = 0;
        one.told.clear();
        return unlike;
    }

    static BigDecimal onTop(BigDecimal net, int rate, int way) {
        return net.multiply(BigDecimal.valueOf(10000 + rate, 4)).setScale(0, WAYS[way]);
    }

    static BigDecimal within(BigDecimal gross, int rate, int way) {
        return gross.divide(BigDecimal.valueOf(10000 + rate).divide(RATE_ONE), 0, WAYS[way]);
    }

    static BigDecimal abroad(One bill, int at, BigDecimal price, int places) {
        return alone(bill).get(at).multiply(price).setScale(places, WAYS[bill.way]);
    }

    static BigDecimal home(One bill, int at, BigDecimal price, int places) {
        BigDecimal back = abroad(bill, at, price, places).divide(price, bill.places, WAYS[bill.way]);
        return back.subtract(alone(bill).get(at));
    }

    /** With x = here / there, half of x + 1 is (here + there) / (there + there): divided once, it is cut once. */
    static int bound(One bill, BigDecimal price, int places) {
        BigDecimal here = BigDecimal.ONE.movePointRight(bill.places);
        BigDecimal there = price.movePointRight(places);
        if (bill.way >= 4) {
            return here.add(there).divide(there.add(there), 0, RoundingMode.FLOOR).intValueExact();
        }
        return here.divide(there, 0, RoundingMode.CEILING).intValueExact();
    }

    long checksum() {
        long sum = 17;
        for (One one : bills) {
            for (long number : new long[] {one.places, one.way, one.closed, one.entries.size()}) {
                sum = sum * 31 + number;
            }
            for (int i = 0; i < one.entries.size(); i++) {
                Entry entry = one.entries.get(i);
                long told = one.closed == 0 ? 0 : one.told.get(i).movePointRight(one.places).longValueExact();
                for (long number : new long[] {entry.price().unscaledValue().longValueExact(), entry.price().scale(),
                    entry.count(), entry.rate(), told}) {
                    sum = sum * 31 + number;
                }
            }
        }
        return sum;
    }
}
