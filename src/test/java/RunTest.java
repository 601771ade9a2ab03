import java.math.BigDecimal;

/**
 * Long runs of calls, ordinary and wrong ones mixed, on the program and on {@link BigBills} side by side: every answer,
 * every exception and, after every call, the checksum have to be the same. The runs are the same each time.
 */
public final class RunTest {
    private static final int RUNS = 800;
    /** With the checksum behind each of them they are the 512 that an object is promised for. */
    private static final int CALLS = 256;
    private static final int KINDS = 36;
    private static final String INDEX = "IndexOutOfBoundsException";
    private static final String ARGUMENT = "IllegalArgumentException";
    private static final String STATE = "IllegalStateException";
    private static final String ARITHMETIC = "ArithmeticException";

    private final Check check;
    private final Billwright x = new Billwright();
    private final BigBills model = new BigBills();
    private final boolean fine;
    private long seed;
    private String call;

    private RunTest(Check check, int run) {
        this.check = check;
        this.seed = run * 7919L + 1;
        // In every other run all amounts are near to 0, so that like rests and halves are met often.
        this.fine = run % 2 == 0;
    }

    public static void main(String[] args) {
        Check check = new Check();
        int[] thrown = new int[2];
        for (int run = 0; run < RUNS; run++) {
            RunTest test = new RunTest(check, run);
            for (int i = 0; i < CALLS; i++) {
                test.step(run, i, thrown);
            }
        }
        System.out.println(thrown[0] + " calls answered, " + thrown[1] + " threw");
        check.due("calls answered, some", true, thrown[0] > RUNS * CALLS / 3);
        check.due("calls that throw, some", true, thrown[1] > RUNS * CALLS / 20);
        check.end();
    }

    private int next(int bound) {
        seed = seed * 6364136223846793005L + 1442695040888963407L;
        return (int) Math.floorMod(seed >>> 33, (long) bound);
    }

    /** From least to most; now and then an edge, or one beyond. There may be none between, as without lines. */
    private int number(int least, int most) {
        if (most < least) {
            return least;
        }
        switch (next(60)) {
            case 0:
                return least - 1;
            case 1:
                return most + 1;
            case 2:
                return next(2) == 0 ? Integer.MIN_VALUE : Integer.MAX_VALUE;
            case 3:
            case 4:
                return least;
            case 5:
            case 6:
                return most;
            default:
                return (int) (least + Math.floorMod((long) next(Integer.MAX_VALUE), (long) most - least + 1));
        }
    }

    private int bill() {
        return next(80) == 0 ? number(0, 2) : next(3);
    }

    private int priceOf() {
        return fine && next(8) != 0 ? next(61) - 30 : number(-99999, 99999);
    }

    private int countOf() {
        return fine && next(8) != 0 ? next(5) - 2 : number(-99, 99);
    }

    private int rateOf() {
        return fine && next(8) != 0 ? next(5) * 500 - 1000 : number(-5000, 9999);
    }

    private static boolean in(int number, int least, int most) {
        return number >= least && number <= most;
    }

    private boolean noBill(int bill) {
        return !in(bill, 0, 2);
    }

    private boolean noLine(int bill, int at) {
        return noBill(bill) || !in(at, 0, model.bills[bill].entries.size() - 1);
    }

    private boolean noPlace(int bill, int at) {
        return noBill(bill) || !in(at, 0, model.bills[bill].entries.size());
    }

    private boolean isClosed(int bill) {
        return model.bills[bill].closed != 0;
    }

    private int size(int bill) {
        return noBill(bill) ? 0 : model.bills[bill].entries.size();
    }

    private static boolean noPrice(int price, int digits, int count) {
        return !in(price, -99999, 99999) || !in(digits, 0, 4) || !in(count, -99, 99);
    }

    /** The first of the exceptions that applies, or none. */
    private static String first(boolean index, boolean argument, java.util.function.BooleanSupplier state) {
        return index ? INDEX : argument ? ARGUMENT : state.getAsBoolean() ? STATE : "";
    }

    private void step(int run, int number, int[] thrown) {
        Step step = nextStep();
        String text = "run " + run + ", call " + number + ": " + call;
        long due = step.exception.isEmpty() ? step.want.answer() : 0;
        long answer = 0;
        String exception = "";
        try {
            answer = step.got.answer();
        } catch (RuntimeException e) {
            exception = e.getClass().getSimpleName();
            check.due(text + " throws by itself", true, Check.isThrownByProgram(e));
        }
        check.dueText(text + " throws", step.exception, exception);
        if (step.exception.isEmpty() && exception.isEmpty()) {
            check.due(text, due, answer);
        }
        thrown[step.exception.isEmpty() ? 0 : 1]++;
        check.due(text + ", then checksum", model.checksum(), x.checksum());
    }

    /** All calls are as likely, but for line() and open(), without which most bills would soon be empty or closed. */
    private Step nextStep() {
        int kind = next(KINDS + 8);
        if (kind >= KINDS) {
            kind = kind < KINDS + 5 ? 2 : 24;
        }
        return kind < 11 ? changeBill(kind) : kind < 21 ? amount(kind) : kind < 25 ? closed(kind)
                : kind < 29 ? tax(kind) : kind < 32 ? money(kind) : other(kind);
    }

    private record Step(String exception, Check.Call want, Check.Call got) {
    }

    private void says(String name, int... arguments) {
        call = name + java.util.Arrays.toString(arguments);
    }

    private static long least(BigDecimal amount, int places) {
        return amount.movePointRight(places).longValueExact();
    }

    private Step changeBill(int kind) {
        int b = bill();
        int to = bill();
        int at = number(0, size(b));
        switch (kind) {
            case 0:
                return cutBy(b, number(0, 3), number(0, 6));
            case 1:
                says("way", b);
                return new Step(noBill(b) ? INDEX : "", () -> "UDCFude".charAt(model.bills[b].way), () -> x.way(b));
            case 2:
                return line(b, at, priceOf(), number(0, 4), countOf());
            case 3:
                return rate(b, number(0, size(b) - 1), rateOf());
            case 4:
                says("remove", b, at);
                return new Step(first(noLine(b, at), false, () -> isClosed(b)), () -> {
                    model.bills[b].entries.remove(at);
                    return size(b);
                }, () -> x.remove(b, at));
            case 5:
                int from = number(0, size(b) - 1);
                int target = number(0, size(b) - 1);
                says("move", b, from, target);
                return new Step(first(noLine(b, from) || noLine(b, target), false, () -> isClosed(b)),
                        () -> model.move(b, from, target), () -> x.move(b, from, target));
            case 6:
                says("sort", b);
                return new Step(first(noBill(b), false, () -> isClosed(b)), () -> model.sort(b), () -> x.sort(b));
            case 7:
                says("split", b, at, to);
                return new Step(first(noBill(to) || noPlace(b, at), b == to,
                        () -> isClosed(b) || isClosed(to) || size(to) + size(b) - at > 9),
                        () -> model.split(b, at, to), () -> x.split(b, at, to));
            case 8:
                says("copy", b, to);
                return new Step(first(noBill(b) || noBill(to), false, () -> isClosed(to)),
                        () -> model.copy(b, to), () -> x.copy(b, to));
            case 9:
                says("lines", b);
                return new Step(noBill(b) ? INDEX : "", () -> size(b), () -> x.lines(b));
            default:
                says("isSame", b, to);
                return new Step(noBill(b) || noBill(to) ? INDEX : "",
                        () -> model.isSame(b, to) ? 1 : 0, () -> x.isSame(b, to) ? 1 : 0);
        }
    }

    private Step cutBy(int b, int places, int way) {
        says("cutBy", b, places, way);
        return new Step(first(noBill(b), !in(places, 0, 3) || !in(way, 0, 6), () -> isClosed(b)),
                () -> model.cutBy(b, places, way), () -> x.cutBy(b, places, way));
    }

    private Step line(int b, int at, int price, int digits, int count) {
        says("line", b, at, price, digits, count);
        return new Step(first(noPlace(b, at), noPrice(price, digits, count), () -> isClosed(b) || size(b) == 9),
                () -> model.line(b, at, price, digits, count), () -> x.line(b, at, price, digits, count));
    }

    private Step rate(int b, int at, int rate) {
        says("rate", b, at, rate);
        return new Step(first(noLine(b, at), !in(rate, -5000, 9999), () -> isClosed(b)),
                () -> model.rate(b, at, rate), () -> x.rate(b, at, rate));
    }

    private Step amount(int kind) {
        int b = bill();
        int at = number(0, size(b) - 1);
        BigBills.One one = noBill(b) ? null : model.bills[b];
        String bill = noBill(b) ? INDEX : "";
        String line = noLine(b, at) ? INDEX : "";
        says("amount " + kind, b, at);
        switch (kind) {
            case 11:
                return new Step(line, () -> least(BigBills.exacts(one).get(at), 8), () -> x.exact(b, at));
            case 12:
                return new Step(bill, () -> least(BigBills.whole(one), 8), () -> x.whole(b));
            case 13:
                return new Step(bill, () -> least(BigBills.total(one), one.places), () -> x.total(b));
            case 14:
                return new Step(line, () -> told(one, 0, at), () -> x.alone(b, at));
            case 15:
                return new Step(line, () -> told(one, 1, at), () -> x.byRests(b, at));
            case 16:
                return new Step(line, () -> told(one, 2, at), () -> x.carried(b, at));
            case 17:
                return new Step(line, () -> BigBills.byRank(one).indexOf(at), () -> x.rank(b, at));
            case 18:
                return new Step(bill, () -> BigBills.raised(one), () -> x.raised(b));
            case 19:
                return new Step(bill, () -> {
                    BigDecimal alone = BigBills.amounts(one, 0).stream().reduce(BigDecimal.ZERO, BigDecimal::add);
                    return least(alone.subtract(BigBills.total(one)), one.places);
                }, () -> x.gap(b));
            default:
                int how = number(0, 2);
                says("off", b, how);
                return new Step(first(noBill(b), !in(how, 0, 2), () -> false),
                        () -> least(BigBills.off(one, how), 8), () -> x.off(b, how));
        }
    }

    private static long told(BigBills.One one, int how, int at) {
        return least(BigBills.amounts(one, how).get(at), one.places);
    }

    private Step closed(int kind) {
        int b = bill();
        int at = number(0, size(b) - 1);
        switch (kind) {
            case 21:
                int how = number(1, 2);
                says("close", b, how);
                return new Step(first(noBill(b), !in(how, 1, 2), () -> isClosed(b)),
                        () -> model.close(b, how), () -> x.close(b, how));
            case 22:
                says("told", b, at);
                return new Step(first(noLine(b, at), false, () -> !isClosed(b)),
                        () -> least(model.bills[b].told.get(at), model.bills[b].places), () -> x.told(b, at));
            case 23:
                return correct(b, at, priceOf(), number(0, 4), countOf());
            default:
                says("open", b);
                return new Step(first(noBill(b), false, () -> !isClosed(b)), () -> model.open(b), () -> x.open(b));
        }
    }

    private Step correct(int b, int at, int price, int digits, int count) {
        says("correct", b, at, price, digits, count);
        return new Step(first(noLine(b, at), noPrice(price, digits, count), () -> !isClosed(b)),
                () -> least(model.correct(b, at, price, digits, count), model.bills[b].places),
                () -> x.correct(b, at, price, digits, count));
    }

    private Step tax(int kind) {
        int amount = next(2) == 0 ? next(2001) - 1000 : number(Integer.MIN_VALUE, Integer.MAX_VALUE);
        int rate = fine && next(8) != 0 ? next(10) * 1000 : number(0, 9999);
        int way = number(0, 6);
        int back = number(0, 6);
        BigDecimal money = BigDecimal.valueOf(amount);
        boolean wrong = !in(rate, 0, 9999) || !in(way, 0, 6);
        says("tax " + kind, amount, rate, way, back);
        switch (kind) {
            case 25:
                return new Step(wrong ? ARGUMENT : "", () -> BigBills.onTop(money, rate, way).longValueExact(),
                        () -> x.onTop(amount, rate, way));
            case 26:
                return new Step(wrong ? ARGUMENT : "", () -> BigBills.within(money, rate, way).longValueExact(),
                        () -> x.within(amount, rate, way));
            case 27:
                return new Step(wrong || !in(back, 0, 6) ? ARGUMENT : "", () -> BigBills.within(
                        BigBills.onTop(money, rate, way), rate, back).subtract(money).longValueExact(),
                        () -> x.undone(amount, rate, way, back));
            default:
                return new Step(wrong || !in(back, 0, 6) ? ARGUMENT : "", () -> BigBills.onTop(
                        BigBills.within(money, rate, way), rate, back).subtract(money).longValueExact(),
                        () -> x.redone(amount, rate, way, back));
        }
    }

    private Step money(int kind) {
        int b = bill();
        int at = number(0, size(b) - 1);
        int price = fine && next(8) != 0 ? 1 + next(20) : number(1, 999);
        int digits = number(0, 3);
        int places = number(0, 3);
        BigDecimal worth = BigDecimal.valueOf(price).movePointLeft(in(digits, 0, 3) ? digits : 0);
        BigBills.One one = noBill(b) ? null : model.bills[b];
        boolean wrong = !in(price, 1, 999) || !in(digits, 0, 3) || !in(places, 0, 3);
        says("money " + kind, b, at, price, digits, places);
        switch (kind) {
            case 29:
                return new Step(first(noLine(b, at), wrong, () -> false),
                        () -> least(BigBills.abroad(one, at, worth, places), places),
                        () -> x.abroad(b, at, price, digits, places));
            case 30:
                return new Step(first(noLine(b, at), wrong, () -> false),
                        () -> least(BigBills.home(one, at, worth, places), one.places),
                        () -> x.home(b, at, price, digits, places));
            default:
                return new Step(first(noBill(b), wrong, () -> false),
                        () -> BigBills.bound(one, worth, places), () -> x.bound(b, price, digits, places));
        }
    }

    private Step other(int kind) {
        int b = bill();
        int at = number(0, size(b) - 1);
        switch (kind) {
            case 32:
                return share(b, at);
            case 33:
                return raisedShare();
            case 34:
                says("checksum");
                return new Step("", model::checksum, x::checksum);
            default:
                says("isSound", b);
                return new Step(noBill(b) ? INDEX : "", () -> 1, () -> x.isSound(b) ? 1 : 0);
        }
    }

    private Step share(int b, int at) {
        says("share", b, at);
        BigBills.One one = noBill(b) ? null : model.bills[b];
        String exception = noLine(b, at) ? INDEX : BigBills.total(one).signum() == 0 ? ARITHMETIC : "";
        return new Step(exception, () -> Double.doubleToLongBits(
                (double) told(one, 1, at) / (double) least(BigBills.total(one), one.places)),
                () -> Double.doubleToLongBits(x.share(b, at)));
    }

    private Step raisedShare() {
        says("raisedShare");
        int lines = size(0) + size(1) + size(2);
        return new Step(lines == 0 ? ARITHMETIC : "", () -> {
            int raised = 0;
            for (BigBills.One one : model.bills) {
                raised += BigBills.raised(one);
            }
            return Float.floatToIntBits((float) raised / (float) lines);
        }, () -> Float.floatToIntBits(x.raisedShare()));
    }
}
