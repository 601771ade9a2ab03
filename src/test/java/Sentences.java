import java.util.Arrays;
import java.util.List;
import java.util.function.Consumer;

/**
 * What the tests of {@link DocumentTest} share: each stands under the very sentence of the document that it holds the
 * program to, and has an object of its own.
 */
abstract class Sentences {
    static final Class<IndexOutOfBoundsException> INDEX = IndexOutOfBoundsException.class;
    static final Class<IllegalArgumentException> ARGUMENT = IllegalArgumentException.class;
    static final Class<IllegalStateException> STATE = IllegalStateException.class;
    static final Class<ArithmeticException> ARITHMETIC = ArithmeticException.class;

    static final int UP = 0;
    static final int DOWN = 1;
    static final int CEILING = 2;
    static final int FLOOR = 3;
    static final int HALF_UP = 4;
    static final int HALF_DOWN = 5;
    static final int HALF_EVEN = 6;

    static final int ALONE = 0;
    static final int BY_RESTS = 1;
    static final int CARRIED = 2;

    static final int MIN = Integer.MIN_VALUE;
    static final int MAX = Integer.MAX_VALUE;

    /** The exact amount of the dearest line that there can be: 99999, 99 times, at a rate of 9999. */
    static final long DEAREST = 1979881200990000L;

    private final Check check;
    private final Document document;
    private String section = "";
    private String sentence = "";

    Sentences(Check check, Document document) {
        this.check = check;
        this.document = document;
    }

    /** A call for one number, such as a bill or a rate; the other arguments are chosen by the test. */
    interface NumberCall {
        long answer(int number);
    }

    interface PlaceCall {
        long answer(Billwright x, int bill, int at);
    }

    abstract void run();

    // ---- sentences ----

    final void promise(int number) {
        section("Promise " + number + ":");
    }

    final void section(String heading) {
        section = heading;
    }

    final List<String> sentences(String heading) {
        return document.sentences(heading);
    }

    /** Of a sentence that asks nothing of the program there is no more to test than that the document says it. */
    final void says(String text) {
        sentence = text;
        if (!document.isSaid(section, text) && document.isThere()) {
            check.fail(where("this") + "is not what the document says");
        }
    }

    final void holds(String text, Consumer<Billwright> test) {
        says(text);
        try {
            test.accept(new Billwright());
        } catch (RuntimeException e) {
            check.fail(where("a call that is not to throw") + "threw " + e);
        }
    }

    private String where(String what) {
        return section + " \"" + sentence + "\" " + what + " ";
    }

    // ---- bills ----

    /** Puts lines behind all others of a bill, each once. */
    static void add(Billwright x, int bill, int digits, int... prices) {
        for (int price : prices) {
            x.line(bill, x.lines(bill), price, digits, 1);
        }
    }

    static void addAt(Billwright x, int bill, int rate, int price, int digits, int count) {
        int at = x.lines(bill);
        x.line(bill, at, price, digits, count);
        x.rate(bill, at, rate);
    }

    /** Nine lines of 0.1111, 0.2222 and so on, which are 4.9995. */
    static void fill(Billwright x, int bill) {
        for (int i = 1; i <= 9; i++) {
            add(x, bill, 4, 1111 * i);
        }
    }

    /** Nine lines of one price, each once. */
    static void fillWith(Billwright x, int bill, int digits, int price) {
        for (int i = 0; i < 9; i++) {
            add(x, bill, digits, price);
        }
    }

    static Billwright cut(int places, int way, int digits, int... prices) {
        Billwright x = new Billwright();
        x.cutBy(0, places, way);
        add(x, 0, digits, prices);
        return x;
    }

    // ---- what is due ----

    final void due(String what, long want, long got) {
        check.due(where(what), want, got);
    }

    final void due(String what, boolean want, boolean got) {
        check.due(where(what), want, got);
    }

    final void dueDouble(String what, double want, double got) {
        due(what, Double.doubleToLongBits(want), Double.doubleToLongBits(got));
    }

    final void dueFloat(String what, float want, float got) {
        due(what, Float.floatToIntBits(want), Float.floatToIntBits(got));
    }

    /** The exact amounts of a bill, in ten-thousandths, tell which lines it has, and in which order. */
    final void dueLines(String what, Billwright x, int bill, long... amounts) {
        due(what + ", lines", amounts.length, x.lines(bill));
        for (int i = 0; i < amounts.length && i < x.lines(bill); i++) {
            due(what + ", line " + i, amounts[i] * 10000, x.exact(bill, i));
        }
    }

    final void refused(String what, Billwright x, Class<? extends RuntimeException> want, Check.Call call) {
        long[] before = picture(x);
        check.dueThrow(where(what), want, call);
        due(what + " changes nothing", true, Arrays.equals(before, picture(x)));
    }

    /** What is kept; and the totals, as a place or a way that is kept twice stands in the checksum only once. */
    private static long[] picture(Billwright x) {
        return new long[] {x.checksum(), x.total(0), x.total(1), x.total(2)};
    }

    /** The numbers next to a range are refused, and those that are farthest away. */
    final void outside(String what, Billwright x, Class<? extends RuntimeException> want, int least, int most,
            NumberCall call) {
        for (int wrong : new int[] {least - 1, most + 1, MIN, MAX}) {
            refused(what + " " + wrong, x, want, () -> call.answer(wrong));
        }
    }

    final void noSuchBill(Billwright x, NumberCall call) {
        outside("bill", x, INDEX, 0, 2, call);
    }

    /** There is no line ahead of the first or behind the last one, be there nine, one or none, open or closed. */
    final void noSuchLine(PlaceCall call) {
        Billwright x = new Billwright();
        fill(x, 0);
        add(x, 1, 0, 7);
        noSuchLineOf(x, call);
        for (int bill = 0; bill <= 2; bill++) {
            x.close(bill, BY_RESTS);
        }
        noSuchLineOf(x, call);
    }

    private void noSuchLineOf(Billwright x, PlaceCall call) {
        outside("line of nine,", x, INDEX, 0, 8, at -> call.answer(x, 0, at));
        outside("line of one,", x, INDEX, 0, 0, at -> call.answer(x, 1, at));
        outside("line of none,", x, INDEX, 0, -1, at -> call.answer(x, 2, at));
    }
}
