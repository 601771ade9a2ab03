import java.util.Arrays;
import java.util.function.BiFunction;
import java.util.function.Function;
import java.util.function.IntFunction;

/** A test for each promise of the document, by its number: ordinary inputs, edges and wrong inputs. */
public final class PromiseTest {
    private static final Class<IndexOutOfBoundsException> INDEX = IndexOutOfBoundsException.class;
    private static final Class<IllegalArgumentException> ARGUMENT = IllegalArgumentException.class;
    private static final Class<IllegalStateException> STATE = IllegalStateException.class;
    private static final Class<ArithmeticException> ARITHMETIC = ArithmeticException.class;

    private static final int UP = 0;
    private static final int DOWN = 1;
    private static final int CEILING = 2;
    private static final int FLOOR = 3;
    private static final int HALF_UP = 4;
    private static final int HALF_DOWN = 5;
    private static final int HALF_EVEN = 6;

    private final Check check = new Check();

    private PromiseTest() {
    }

    public static void main(String[] args) {
        PromiseTest test = new PromiseTest();
        test.bills();
        test.amounts();
        test.closedBills();
        test.taxesAndMoney();
        test.allOfThem();
        test.check.end();
    }

    private void bills() {
        promise1NewObject();
        promise2CutBy();
        promise3Way();
        promise4Line();
        promise5Rate();
        promise6Remove();
        promise7Move();
        promise8Sort();
        promise9Split();
        promise10Copy();
        promise11Lines();
        promise12IsSame();
    }

    private void amounts() {
        promise13Exact();
        promise14Whole();
        promise15Total();
        promise16Alone();
        promise17ByRests();
        promise18Carried();
        promise19Rank();
        promise20Raised();
        promise21Gap();
        promise22Off();
    }

    private void closedBills() {
        promise23Close();
        promise24Told();
        promise25Correct();
        promise26Open();
    }

    private void taxesAndMoney() {
        promise27OnTop();
        promise28Within();
        promise29Undone();
        promise30Redone();
        promise31Abroad();
        promise32Home();
        promise33Bound();
    }

    private void allOfThem() {
        promise34Share();
        promise35RaisedShare();
        promise36Checksum();
        promise37IsSound();
    }

    /** A bill 0 with a line of each price, all of the same digits, each once. */
    private static Billwright billOf(int digits, int... prices) {
        Billwright x = new Billwright();
        addLines(x, 0, digits, prices);
        return x;
    }

    private static void addLines(Billwright x, int bill, int digits, int... prices) {
        for (int price : prices) {
            x.line(bill, x.lines(bill), price, digits, 1);
        }
    }

    private static Billwright closedBillOf(int how, int digits, int... prices) {
        Billwright x = billOf(digits, prices);
        x.close(0, how);
        return x;
    }

    private static Billwright billCutBy(int places, int way, int digits, int... prices) {
        Billwright x = billOf(digits, prices);
        x.cutBy(0, places, way);
        return x;
    }

    /** The exact amounts of all lines tell in which order they stand. */
    private void dueLines(String what, Billwright x, int bill, long... exact) {
        check.due(what + ", lines", exact.length, x.lines(bill));
        for (int i = 0; i < exact.length && i < x.lines(bill); i++) {
            check.due(what + ", line " + i, exact[i], x.exact(bill, i));
        }
    }

    /** A call that throws changes nothing of what is kept. */
    private void dueRefused(String what, Billwright x, Class<? extends RuntimeException> want, Check.Call call) {
        long before = x.checksum();
        check.dueThrow(what, want, call);
        check.due(what + " changes nothing", before, x.checksum());
    }

    private void dueNoSuchBill(String what, Billwright x, IntFunction<Check.Call> callOf) {
        for (int bill : new int[] {-1, 3, Integer.MIN_VALUE, Integer.MAX_VALUE}) {
            dueRefused(what + ", bill " + bill, x, INDEX, callOf.apply(bill));
        }
    }

    private void dueNoSuchLine(String what, Billwright x, IntFunction<Check.Call> callOf) {
        for (int at : new int[] {-1, x.lines(0), Integer.MIN_VALUE, Integer.MAX_VALUE}) {
            dueRefused(what + ", line " + at, x, INDEX, callOf.apply(at));
        }
    }

    private void promise1NewObject() {
        Billwright x = new Billwright();
        for (int bill = 0; bill < 3; bill++) {
            int which = bill;
            check.due("new: lines", 0, x.lines(bill));
            check.due("new: way", 'e', x.way(bill));
            check.due("new: whole", 0, x.whole(bill));
            check.due("new: total", 0, x.total(bill));
            dueRefused("new: open", x, STATE, () -> x.open(which));
        }
        // All that is kept of each bill are the numbers 2, 6, 0, 0: its places, its way, that it is open, its lines.
        long sum = 17;
        for (int number : new int[] {2, 6, 0, 0, 2, 6, 0, 0, 2, 6, 0, 0}) {
            sum = sum * 31 + number;
        }
        check.due("new: checksum", sum, x.checksum());
        Billwright other = new Billwright();
        other.line(0, 0, 1, 0, 1);
        check.due("new: another object has lines of its own", 0, x.lines(0));
    }

    private void promise2CutBy() {
        Billwright x = billOf(3, 1005, 1250, 1000, -1005);
        check.due("cutBy to the same", 0, x.cutBy(0, 2, HALF_EVEN));
        check.due("cutBy half up", 2, x.cutBy(0, 2, HALF_UP));
        check.due("cutBy half up: alone", 101, x.alone(0, 0));
        check.due("cutBy three places", 2, x.cutBy(0, 3, HALF_UP));
        check.due("cutBy three places: the way", 'u', x.way(0));
        check.due("cutBy three places: alone", 1005, x.alone(0, 0));
        check.due("cutBy no place: 1.250 is no longer, 1.000 is", 3, x.cutBy(0, 0, DOWN));
        check.due("cutBy no place: alone", -1, x.alone(0, 3));
        check.due("cutBy no place: others keep their way", 'e', x.way(1));
        check.due("cutBy: 1.00 is the same money with other digits", 0, billOf(0, 1, 2).cutBy(0, 3, UP));
        check.due("cutBy a bill without lines", 0, new Billwright().cutBy(2, 0, UP));
        dueNoSuchBill("cutBy", x, bill -> () -> x.cutBy(bill, 9, 9));
        for (int wrong : new int[] {-1, Integer.MIN_VALUE, Integer.MAX_VALUE}) {
            dueRefused("cutBy places", x, ARGUMENT, () -> x.cutBy(0, wrong, 0));
            dueRefused("cutBy way", x, ARGUMENT, () -> x.cutBy(0, 0, wrong));
        }
        dueRefused("cutBy places 4", x, ARGUMENT, () -> x.cutBy(0, 4, 0));
        dueRefused("cutBy way 7", x, ARGUMENT, () -> x.cutBy(0, 0, 7));
        x.close(0, 1);
        dueRefused("cutBy closed", x, STATE, () -> x.cutBy(0, 0, 0));
        dueRefused("cutBy closed, way 7", x, ARGUMENT, () -> x.cutBy(0, 0, 7));
        check.due("cutBy closed: the way stays", 'D', x.way(0));
    }

    private void promise3Way() {
        Billwright x = new Billwright();
        String letters = "UDCFude";
        for (int way = 0; way < letters.length(); way++) {
            x.cutBy(1, 0, way);
            check.due("way " + way, letters.charAt(way), x.way(1));
        }
        x.cutBy(1, 0, CEILING);
        x.close(1, 1);
        check.due("way of a closed bill", 'C', x.way(1));
        dueNoSuchBill("way", x, bill -> () -> x.way(bill));
    }

    private void promise4Line() {
        Billwright x = new Billwright();
        check.due("line, first", 1, x.line(0, 0, 1, 0, 1));
        check.due("line, behind", 2, x.line(0, 1, 2, 0, 1));
        check.due("line, ahead", 3, x.line(0, 0, 3, 0, 1));
        check.due("line, between", 4, x.line(0, 2, -4, 4, -99));
        dueLines("line", x, 0, 300000000L, 100000000L, 3960000L, 200000000L);
        check.due("line: the rate is 0", 0, x.rate(0, 0, 1));
        dueNoSuchBill("line", x, bill -> () -> x.line(bill, 0, 100000, 0, 0));
        for (int at : new int[] {-1, 5, Integer.MIN_VALUE, Integer.MAX_VALUE}) {
            dueRefused("line, place " + at, x, INDEX, () -> x.line(0, at, 100000, 0, 0));
        }
        for (int price : new int[] {-100000, 100000, Integer.MIN_VALUE, Integer.MAX_VALUE}) {
            dueRefused("line, price " + price, x, ARGUMENT, () -> x.line(0, 0, price, 0, 0));
        }
        for (int digits : new int[] {-1, 5, Integer.MIN_VALUE, Integer.MAX_VALUE}) {
            dueRefused("line, digits " + digits, x, ARGUMENT, () -> x.line(0, 0, 0, digits, 0));
        }
        for (int count : new int[] {-100, 100, Integer.MIN_VALUE, Integer.MAX_VALUE}) {
            dueRefused("line, count " + count, x, ARGUMENT, () -> x.line(0, 0, 0, 0, count));
        }
        lineOfFullOrClosedBill();
    }

    private void lineOfFullOrClosedBill() {
        Billwright x = billOf(0, 1, 2, 3, 4, 5, 6, 7, 8);
        check.due("line, the ninth", 9, x.line(0, 4, -99999, 0, 99));
        dueRefused("line, a tenth", x, STATE, () -> x.line(0, 9, 0, 0, 0));
        dueRefused("line, a tenth of a wrong price", x, ARGUMENT, () -> x.line(0, 9, 100000, 0, 0));
        dueRefused("line, a tenth at no place", x, INDEX, () -> x.line(0, 10, 0, 0, 0));
        check.due("line of another bill", 1, x.line(1, 0, 99999, 4, -99));
        x.close(1, 2);
        dueRefused("line, closed", x, STATE, () -> x.line(1, 0, 0, 0, 0));
        dueRefused("line, closed, a wrong count", x, ARGUMENT, () -> x.line(1, 0, 0, 0, 100));
    }

    private void promise5Rate() {
        Billwright x = billOf(2, 10000, 20000);
        check.due("rate, first", 0, x.rate(0, 0, 1900));
        check.due("rate, exact", 11900000000L, x.exact(0, 0));
        check.due("rate, then", 1900, x.rate(0, 0, -5000));
        check.due("rate, the least: exact", 5000000000L, x.exact(0, 0));
        check.due("rate, the greatest", -5000, x.rate(0, 0, 9999));
        check.due("rate, the greatest: exact", 19999000000L, x.exact(0, 0));
        check.due("rate, others stay", 20000000000L, x.exact(0, 1));
        dueNoSuchBill("rate", x, bill -> () -> x.rate(bill, 0, 10000));
        dueNoSuchLine("rate", x, at -> () -> x.rate(0, at, 10000));
        dueRefused("rate of a bill without lines", x, INDEX, () -> x.rate(1, 0, 0));
        for (int rate : new int[] {-5001, 10000, Integer.MIN_VALUE, Integer.MAX_VALUE}) {
            dueRefused("rate " + rate, x, ARGUMENT, () -> x.rate(0, 0, rate));
        }
        x.close(0, 1);
        dueRefused("rate, closed", x, STATE, () -> x.rate(0, 0, 0));
        dueRefused("rate, closed, wrong", x, ARGUMENT, () -> x.rate(0, 0, 10000));
    }

    private void promise6Remove() {
        Billwright x = billOf(0, 1, 2, 3);
        dueNoSuchLine("remove", x, at -> () -> x.remove(0, at));
        check.due("remove, between", 2, x.remove(0, 1));
        dueLines("remove, between", x, 0, 100000000L, 300000000L);
        check.due("remove, first", 1, x.remove(0, 0));
        dueLines("remove, first", x, 0, 300000000L);
        check.due("remove, last", 0, x.remove(0, 0));
        dueRefused("remove, none left", x, INDEX, () -> x.remove(0, 0));
        dueNoSuchBill("remove", x, bill -> () -> x.remove(bill, 0));
        x.line(0, 0, 1, 0, 1);
        x.close(0, 1);
        dueRefused("remove, closed", x, STATE, () -> x.remove(0, 0));
        dueRefused("remove, closed, no such line", x, INDEX, () -> x.remove(0, 1));
    }

    private void promise7Move() {
        Billwright x = billOf(0, 1, 2, 3, 4);
        check.due("move behind", 3, x.move(0, 0, 2));
        dueLines("move behind", x, 0, 200000000L, 300000000L, 100000000L, 400000000L);
        check.due("move ahead", 4, x.move(0, 3, 0));
        dueLines("move ahead", x, 0, 400000000L, 200000000L, 300000000L, 100000000L);
        check.due("move to where it stands", 0, x.move(0, 1, 1));
        dueLines("move to where it stands", x, 0, 400000000L, 200000000L, 300000000L, 100000000L);
        check.due("move, in the middle", 2, x.move(0, 2, 1));
        check.due("move, in the middle, back", 2, x.move(0, 1, 2));
        check.due("move, like lines too", 2, billOf(0, 5, 5).move(0, 1, 0));
        x.rate(0, 0, 5000);
        x.move(0, 0, 1);
        check.due("move takes the rate along", 600000000L, x.exact(0, 1));
        dueNoSuchBill("move", x, bill -> () -> x.move(bill, 0, 0));
        dueNoSuchLine("move from", x, at -> () -> x.move(0, at, 0));
        dueNoSuchLine("move to", x, at -> () -> x.move(0, 0, at));
        x.close(0, 2);
        dueRefused("move, closed", x, STATE, () -> x.move(0, 0, 1));
        dueRefused("move, closed, to where it stands", x, STATE, () -> x.move(0, 1, 1));
        dueRefused("move, closed, no such line", x, INDEX, () -> x.move(0, 0, 4));
    }

    private void promise8Sort() {
        Billwright x = billOf(0, 3, 1, 2, -5);
        check.due("sort", 2, x.sort(0));
        dueLines("sort", x, 0, -500000000L, 100000000L, 200000000L, 300000000L);
        check.due("sort, in order already", 0, x.sort(0));
        check.due("sort, without lines", 0, x.sort(1));
        // 2 times 3, 6 times 1 and 3 times 2 are like, and stay in the order in which they stood.
        x.line(1, 0, 70, 1, 1);
        x.line(1, 1, 2, 0, 3);
        x.line(1, 2, 6, 0, 1);
        x.line(1, 3, 3, 0, 2);
        check.due("sort, like ones", 4, x.sort(1));
        int[] prices = {2, 6, 3, 70};
        int[] counts = {3, 1, 2, 1};
        for (int i = 0; i < 4; i++) {
            x.line(2, i, prices[i], i == 3 ? 1 : 0, counts[i]);
        }
        check.due("sort keeps like ones in their order", true, x.isSame(1, 2));
        x.line(1, 4, 1, 0, 1);
        x.rate(1, 4, 5000);
        check.due("sort by the amount with the rate", 5, x.sort(1));
        check.due("sort by the amount with the rate: first", 150000000L, x.exact(1, 0));
        dueNoSuchBill("sort", x, bill -> () -> x.sort(bill));
        x.close(0, 1);
        dueRefused("sort, closed", x, STATE, () -> x.sort(0));
    }

    private void promise9Split() {
        Billwright x = billOf(0, 1, 2, 3, 4);
        addLines(x, 1, 0, 9);
        x.rate(0, 3, 5000);
        check.due("split", 3, x.split(0, 2, 1));
        dueLines("split, the one", x, 0, 100000000L, 200000000L);
        dueLines("split, the other", x, 1, 900000000L, 300000000L, 600000000L);
        check.due("split, none", 3, x.split(0, 2, 1));
        check.due("split, all", 5, x.split(0, 0, 1));
        check.due("split, all are gone", 0, x.lines(0));
        check.due("split of none", 5, x.split(0, 0, 1));
        check.due("split into an empty one", 4, x.split(1, 1, 2));
        dueNoSuchBill("split", x, bill -> () -> x.split(bill, 0, 0));
        dueNoSuchBill("split to", x, bill -> () -> x.split(0, 0, bill));
        for (int at : new int[] {-1, 5, Integer.MIN_VALUE, Integer.MAX_VALUE}) {
            dueRefused("split, place " + at, x, INDEX, () -> x.split(2, at, 2));
        }
        dueRefused("split, the same bill", x, ARGUMENT, () -> x.split(2, 0, 2));
        splitFullOrClosedBill();
    }

    private void splitFullOrClosedBill() {
        Billwright x = billOf(0, 1, 2, 3, 4, 5);
        addLines(x, 1, 0, 6, 7, 8, 9, 10);
        dueRefused("split, ten lines", x, STATE, () -> x.split(0, 0, 1));
        check.due("split, nine lines", 9, x.split(0, 1, 1));
        check.due("split, none to nine", 9, x.split(0, 1, 1));
        x.close(0, 1);
        dueRefused("split, closed", x, STATE, () -> x.split(0, 0, 2));
        dueRefused("split to closed", x, STATE, () -> x.split(2, 0, 0));
        dueRefused("split, closed, the same", x, ARGUMENT, () -> x.split(0, 0, 0));
        dueRefused("split, closed, no such place", x, INDEX, () -> x.split(0, 2, 0));
    }

    private void promise10Copy() {
        Billwright x = billOf(2, 150, 250);
        x.rate(0, 1, 700);
        x.cutBy(0, 3, FLOOR);
        addLines(x, 1, 0, 1, 2, 3);
        check.due("copy", 2, x.copy(0, 1));
        check.due("copy: the same lines", true, x.isSame(0, 1));
        check.due("copy: the way", 'F', x.way(1));
        check.due("copy: the places", 1500, x.alone(1, 0));
        check.due("copy: the places, in another money", 1000, x.bound(1, 1, 0, 0));
        x.rate(1, 0, 100);
        x.remove(1, 1);
        dueLines("copy: the other one stays", x, 0, 150000000L, 267500000L);
        check.due("copy of none", 0, x.copy(2, 1));
        check.due("copy of none: the way", 'e', x.way(1));
        long before = x.checksum();
        check.due("copy to itself", 2, x.copy(0, 0));
        check.due("copy to itself changes nothing", before, x.checksum());
        dueNoSuchBill("copy", x, bill -> () -> x.copy(bill, 0));
        dueNoSuchBill("copy to", x, bill -> () -> x.copy(0, bill));
        copyOfClosedBill();
    }

    private void copyOfClosedBill() {
        Billwright x = closedBillOf(2, 3, 333, 333, 333);
        check.due("copy of a closed bill", 3, x.copy(0, 1));
        dueRefused("copy of a closed bill is open", x, STATE, () -> x.told(1, 0));
        Billwright same = billOf(3, 333, 333, 333);
        addLines(same, 1, 3, 333, 333, 333);
        same.close(0, 2);
        check.due("copy of a closed bill: no told amounts", same.checksum(), x.checksum());
        check.due("copy of a closed bill: that one keeps its own", 34, x.told(0, 1));
        dueRefused("copy to a closed bill", x, STATE, () -> x.copy(1, 0));
        dueRefused("copy of a closed bill to itself", x, STATE, () -> x.copy(0, 0));
        dueRefused("copy of no bill to a closed one", x, INDEX, () -> x.copy(3, 0));
    }

    private void promise11Lines() {
        Billwright x = billOf(0, 1, 2);
        check.due("lines", 2, x.lines(0));
        check.due("lines of another", 0, x.lines(2));
        x.close(0, 1);
        check.due("lines, closed", 2, x.lines(0));
        dueNoSuchBill("lines", x, bill -> () -> x.lines(bill));
    }

    private void promise12IsSame() {
        Billwright x = billOf(1, 15, 20);
        x.line(1, 0, 1500, 3, 1);
        check.due("isSame, one more", false, x.isSame(0, 1));
        x.line(1, 1, 2, 0, 1);
        x.cutBy(1, 0, UP);
        check.due("isSame, other digits and another way", true, x.isSame(0, 1));
        check.due("isSame, the other way round", true, x.isSame(1, 0));
        check.due("isSame, itself", true, x.isSame(1, 1));
        x.close(1, 1);
        check.due("isSame, closed", true, x.isSame(0, 1));
        x.move(0, 0, 1);
        check.due("isSame, another order", false, x.isSame(0, 1));
        x.move(0, 0, 1);
        x.rate(0, 0, 1);
        check.due("isSame, another rate", false, x.isSame(0, 1));
        x.rate(0, 0, 0);
        x.remove(0, 0);
        x.line(0, 0, 5, 1, 3);
        check.due("isSame, another price and count of the same amount", false, x.isSame(0, 1));
        check.due("isSame, both without lines", true, new Billwright().isSame(0, 2));
        check.due("isSame, nothing is 0 with any digits", true, likeZeros().isSame(0, 1));
        dueNoSuchBill("isSame", x, bill -> () -> x.isSame(bill, 0) ? 1 : 0);
        dueNoSuchBill("isSame with", x, bill -> () -> x.isSame(0, bill) ? 1 : 0);
    }

    private static Billwright likeZeros() {
        Billwright x = billOf(0, 0);
        addLines(x, 1, 4, 0);
        return x;
    }

    private void promise13Exact() {
        Billwright x = billOf(0, 99999, -99999);
        x.line(0, 2, 12345, 4, -7);
        check.due("exact, with no digits", 9999900000000L, x.exact(0, 0));
        check.due("exact, below 0", -9999900000000L, x.exact(0, 1));
        check.due("exact, with four digits", -864150000L, x.exact(0, 2));
        x.rate(0, 2, 1234);
        check.due("exact, with all digits", -970786110L, x.exact(0, 2));
        x.close(0, 1);
        check.due("exact, closed", -970786110L, x.exact(0, 2));
        x.line(1, 0, 1, 4, 1);
        x.rate(1, 0, 1);
        check.due("exact, the least digit", 10001L, x.exact(1, 0));
        dueNoSuchBill("exact", x, bill -> () -> x.exact(bill, 0));
        dueNoSuchLine("exact", x, at -> () -> x.exact(0, at));
    }

    private void promise14Whole() {
        Billwright x = new Billwright();
        for (int i = 0; i < 9; i++) {
            x.line(0, i, -99999, 0, 99);
            x.rate(0, i, 9999);
        }
        check.due("whole, the least of all", -9 * 1979881200990000L, x.whole(0));
        check.due("whole, without lines", 0, x.whole(1));
        check.due("whole", 166600000L, billOf(3, 333, 333, 1000).whole(0));
        dueNoSuchBill("whole", x, bill -> () -> x.whole(bill));
    }

    private void promise15Total() {
        int[][] dueByWay = {
            {3, 2, 3, 2, 3, 2, 2}, {-3, -2, -2, -3, -3, -2, -2}, {4, 3, 4, 3, 4, 3, 4}, {-4, -3, -3, -4, -4, -3, -4},
            {3, 2, 3, 2, 2, 2, 2}, {-3, -2, -2, -3, -2, -2, -2}, {3, 2, 3, 2, 3, 3, 3}, {-3, -2, -2, -3, -3, -3, -3},
            {2, 2, 2, 2, 2, 2, 2}, {0, 0, 0, 0, 0, 0, 0}, {1, 0, 1, 0, 1, 0, 0}, {-1, 0, 0, -1, -1, 0, 0},
        };
        int[] wholes = {2500, -2500, 3500, -3500, 2499, -2499, 2501, -2501, 2000, 0, 500, -500};
        for (int i = 0; i < wholes.length; i++) {
            for (int way = 0; way <= HALF_EVEN; way++) {
                Billwright x = billCutBy(0, way, 3, wholes[i] - 7, 7);
                check.due("total of " + wholes[i] + " by " + way, dueByWay[i][way], x.total(0));
            }
        }
        for (int places = 0; places <= 3; places++) {
            Billwright x = billCutBy(places, DOWN, 4, 12345, 0, 43210);
            check.due("total, places " + places, new int[] {5, 55, 555, 5555}[places], x.total(0));
        }
        check.due("total, without lines", 0, new Billwright().total(2));
        Billwright x = closedBillOf(1, 2, 150, 149);
        check.due("total, closed", 299, x.total(0));
        dueNoSuchBill("total", x, bill -> () -> x.total(bill));
    }

    private void promise16Alone() {
        int[] dueByWay = {-13, -12, -12, -13, -13, -12, -12};
        for (int way = 0; way <= HALF_EVEN; way++) {
            Billwright x = billCutBy(1, way, 2, 5, -125);
            check.due("alone by " + way, dueByWay[way], x.alone(0, 1));
        }
        Billwright x = closedBillOf(1, 3, 333, 333, 333);
        check.due("alone, closed", 33, x.alone(0, 0));
        dueNoSuchBill("alone", x, bill -> () -> x.alone(bill, 0));
        dueNoSuchLine("alone", x, at -> () -> x.alone(0, at));
    }

    private void dueByRests(String what, Billwright x, int bill, long... want) {
        for (int i = 0; i < want.length; i++) {
            check.due(what + ", by rests, line " + i, want[i], x.byRests(bill, i));
        }
    }

    private void promise17ByRests() {
        dueByRests("like rests", billOf(3, 333, 333, 333), 0, 34, 33, 33);
        dueByRests("the greatest rest", billOf(3, 331, 335, 334), 0, 33, 34, 33);
        dueByRests("two more", billOf(3, 334, 338, 338), 0, 33, 34, 34);
        dueByRests("below 0", billCutBy(0, HALF_EVEN, 1, -5, -7, 22), 0, 0, -1, 2);
        dueByRests("below 0, up", billCutBy(0, UP, 1, -5, -8, 2), 0, -1, -1, 0);
        dueByRests("no rests", billOf(2, 100, -100, 7), 0, 100, -100, 7);
        dueByRests("up, all of them", billCutBy(0, UP, 1, 9, 9, 9), 0, 1, 1, 1);
        dueByRests("one line", billCutBy(0, HALF_UP, 1, -5), 0, -1);
        Billwright x = billOf(3, 333, 333, 333);
        dueNoSuchBill("byRests", x, bill -> () -> x.byRests(bill, 0));
        dueNoSuchLine("byRests", x, at -> () -> x.byRests(0, at));
    }

    private void dueCarried(String what, Billwright x, int bill, long... want) {
        for (int i = 0; i < want.length; i++) {
            check.due(what + ", carried, line " + i, want[i], x.carried(bill, i));
        }
    }

    private void promise18Carried() {
        dueCarried("like rests", billOf(3, 333, 333, 333), 0, 33, 34, 33);
        dueCarried("up", billCutBy(0, UP, 1, 1, 1, 9), 0, 1, 0, 1);
        dueCarried("up, across 0", billCutBy(0, UP, 1, 1, -2, 1), 0, 1, -2, 1);
        dueCarried("to the ceiling", billCutBy(0, CEILING, 1, 1, -2, 1), 0, 1, -1, 0);
        dueCarried("to the floor", billCutBy(0, FLOOR, 1, 1, -2, 1), 0, 0, -1, 1);
        dueCarried("half to the even one", billCutBy(0, HALF_EVEN, 1, 5, 10, 10), 0, 0, 2, 0);
        dueCarried("half down", billCutBy(0, HALF_DOWN, 1, 5, 10, -20), 0, 0, 1, -1);
        Billwright x = billOf(3, 333, 333, 333);
        dueNoSuchBill("carried", x, bill -> () -> x.carried(bill, 0));
        dueNoSuchLine("carried", x, at -> () -> x.carried(0, at));
    }

    private void dueRanks(String what, Billwright x, int bill, int... want) {
        for (int i = 0; i < want.length; i++) {
            check.due(what + ", rank, line " + i, want[i], x.rank(bill, i));
        }
    }

    private void promise19Rank() {
        dueRanks("like rests", billOf(3, 333, 333, 333), 0, 0, 1, 2);
        dueRanks("the greatest first", billOf(3, 331, 339, 334), 0, 2, 0, 1);
        dueRanks("the rest of -0.1 is 0.9", billCutBy(0, DOWN, 1, -9, -1, 5, 5), 0, 3, 0, 1, 2);
        dueRanks("of the amount, not of the size", billCutBy(0, DOWN, 1, 95, 6, 100), 0, 1, 0, 2);
        Billwright x = billOf(3, 333);
        dueNoSuchBill("rank", x, bill -> () -> x.rank(bill, 0));
        dueNoSuchLine("rank", x, at -> () -> x.rank(0, at));
    }

    private void promise20Raised() {
        check.due("raised", 1, billOf(3, 333, 333, 333).raised(0));
        check.due("raised, none", 0, billOf(2, 33, 33).raised(0));
        check.due("raised, without lines", 0, new Billwright().raised(1));
        check.due("raised, up", 3, billCutBy(0, UP, 1, 9, 9, 9).raised(0));
        check.due("raised, down", 2, billCutBy(0, DOWN, 1, 9, 9, 9).raised(0));
        check.due("raised, down, below 0", 1, billCutBy(0, DOWN, 1, -9, -9, -9).raised(0));
        check.due("raised, up, below 0", 0, billCutBy(0, UP, 1, -9, -9, -9).raised(0));
        Billwright x = closedBillOf(2, 3, 333, 333, 333);
        check.due("raised, closed by carrying", 1, x.raised(0));
        dueNoSuchBill("raised", x, bill -> () -> x.raised(bill));
    }

    private void promise21Gap() {
        check.due("gap, less", -1, billOf(3, 333, 333, 333).gap(0));
        check.due("gap, more", 1, billOf(3, 336, 336, 338).gap(0));
        check.due("gap, up", 8, billCutBy(0, UP, 1, 1, 1, 1, 1, 1, 1, 1, 1, 1).gap(0));
        check.due("gap, none", 0, billOf(2, 1, 2, 3).gap(0));
        check.due("gap, without lines", 0, new Billwright().gap(0));
        Billwright x = closedBillOf(1, 3, 333, 333, 333);
        check.due("gap, closed", -1, x.gap(0));
        dueNoSuchBill("gap", x, bill -> () -> x.gap(bill));
    }

    private void promise22Off() {
        Billwright x = billOf(3, 333, 333, 333);
        check.due("off, alone", 900000L, x.off(0, 0));
        check.due("off, by rests", 1300000L, x.off(0, 1));
        check.due("off, carried", 1300000L, x.off(0, 2));
        Billwright up = billCutBy(0, UP, 1, 1, -2, 1);
        check.due("off, up, alone: 0.9 + 0.8 + 0.9", 260000000L, up.off(0, 0));
        check.due("off, up, by rests: 0.1 + 0.2 + 0.1", 40000000L, up.off(0, 1));
        check.due("off, up, carried: 0.9 + 1.8 + 0.9", 360000000L, up.off(0, 2));
        check.due("off, without lines", 0, x.off(1, 2));
        dueNoSuchBill("off", x, bill -> () -> x.off(bill, 3));
        for (int how : new int[] {-1, 3, Integer.MIN_VALUE, Integer.MAX_VALUE}) {
            dueRefused("off, how " + how, x, ARGUMENT, () -> x.off(0, how));
        }
        x.close(0, 1);
        check.due("off, closed", 900000L, x.off(0, 0));
    }

    private void promise23Close() {
        check.due("close by rests", 1, billOf(3, 333, 333, 333).close(0, 1));
        check.due("close by carrying", 2, billCutBy(0, UP, 1, 1, -2, 1, 1, 8).close(0, 2));
        check.due("close, none otherwise", 0, billOf(2, 1, 2).close(0, 1));
        check.due("close, without lines", 0, new Billwright().close(2, 2));
        Billwright x = billOf(3, 333, 333, 333);
        dueNoSuchBill("close", x, bill -> () -> x.close(bill, 0));
        for (int how : new int[] {-1, 0, 3, Integer.MIN_VALUE, Integer.MAX_VALUE}) {
            dueRefused("close, how " + how, x, ARGUMENT, () -> x.close(0, how));
        }
        x.close(0, 2);
        dueRefused("close, closed", x, STATE, () -> x.close(0, 1));
        dueRefused("close, closed, no such way", x, ARGUMENT, () -> x.close(0, 0));
        check.due("close: others stay open", 1, x.line(1, 0, 1, 0, 1));
    }

    private void promise24Told() {
        Billwright x = closedBillOf(1, 3, 333, 333, 333);
        Billwright carried = closedBillOf(2, 3, 333, 333, 333);
        int[] byRests = {34, 33, 33};
        int[] byCarrying = {33, 34, 33};
        for (int i = 0; i < 3; i++) {
            check.due("told by rests", byRests[i], x.told(0, i));
            check.due("told by carrying", byCarrying[i], carried.told(0, i));
        }
        x.correct(0, 1, 1000, 3, 1);
        check.due("told, corrected", 100, x.told(0, 1));
        check.due("told, another one corrected", 34, x.told(0, 0));
        dueNoSuchBill("told", x, bill -> () -> x.told(bill, 0));
        dueNoSuchLine("told", x, at -> () -> x.told(0, at));
        x.open(0);
        dueRefused("told, open", x, STATE, () -> x.told(0, 0));
        dueRefused("told, open, no such line", x, INDEX, () -> x.told(0, 3));
    }

    private void promise25Correct() {
        Billwright x = billOf(3, 333, 333, 333);
        x.rate(0, 1, 5000);
        x.close(0, 1);
        // 0.333 + 0.4995 + 0.333 is 1.1655, told as 1.17: two of 0.33, 0.49, 0.33 are one more, by the rests 3, 9.5, 3.
        check.due("correct, before", 34, x.told(0, 0));
        long before = x.checksum();
        check.due("correct: 0.333 + 3 + 0.333 is 3.67", 300, x.correct(0, 1, 2, 0, 1));
        check.due("correct: the rate stays", 300000000L, x.exact(0, 1));
        check.due("correct: others stay", 33, x.told(0, 2));
        check.due("correct, again: 0.333 + 3 - 27 is -23.67", -2701, x.correct(0, 2, -9, 0, 3));
        check.due("correct, back", 33, x.correct(0, 2, 333, 3, 1));
        check.due("correct, back too", 50, x.correct(0, 1, 333, 3, 1));
        check.due("correct back: all as before", before, x.checksum());
        dueNoSuchBill("correct", x, bill -> () -> x.correct(bill, 0, 100000, 0, 0));
        dueNoSuchLine("correct", x, at -> () -> x.correct(0, at, 100000, 0, 0));
        int[][] outOfRange = {{100000, 0, 0}, {-100000, 0, 0}, {0, 5, 0}, {0, -1, 0}, {0, 0, 100}, {0, 0, -100}};
        for (int[] wrong : outOfRange) {
            dueRefused("correct, out of range", x, ARGUMENT, () -> x.correct(0, 0, wrong[0], wrong[1], wrong[2]));
        }
        x.open(0);
        dueRefused("correct, open", x, STATE, () -> x.correct(0, 0, 0, 0, 0));
        dueRefused("correct, open, out of range", x, ARGUMENT, () -> x.correct(0, 0, 0, 5, 0));
    }

    private void promise26Open() {
        Billwright x = closedBillOf(1, 3, 333, 333, 333);
        check.due("open, as it was told", 0, x.open(0));
        dueRefused("open, open", x, STATE, () -> x.open(0));
        check.due("open: it can be changed", 2, x.remove(0, 0));
        x.close(0, 2);
        // 0.33 and 0.34 by carrying; corrected to 0.337 and 0.333 it would be 0.34 and 0.33.
        check.due("open: corrected", 33, x.correct(0, 0, 337, 3, 1));
        check.due("open, told otherwise", 2, x.open(0));
        Billwright opened = billOf(3, 337, 333);
        check.due("open: told amounts are gone", opened.checksum(), x.checksum());
        check.due("open without lines", 0, openedEmpty());
        dueNoSuchBill("open", x, bill -> () -> x.open(bill));
        openAsItWasClosed();
    }

    private static int openedEmpty() {
        Billwright x = new Billwright();
        x.close(1, 2);
        return x.open(1);
    }

    private void openAsItWasClosed() {
        for (int how = 1; how <= 2; how++) {
            Billwright x = closedBillOf(how, 3, 333, 333, 333);
            check.due("open as it was closed", 0, x.open(0));
        }
    }

    private void promise27OnTop() {
        Billwright x = new Billwright();
        check.due("onTop", 119, x.onTop(100, 1900, HALF_UP));
        int[] dueByWay = {8, 7, 8, 7, 8, 7, 8};
        for (int way = 0; way <= HALF_EVEN; way++) {
            check.due("onTop by " + way, dueByWay[way], x.onTop(5, 5000, way));
            int mirrored = way == CEILING ? FLOOR : way == FLOOR ? CEILING : way;
            check.due("onTop below 0 by " + way, -dueByWay[mirrored], x.onTop(-5, 5000, way));
        }
        check.due("onTop, the greatest", 4294752545L, x.onTop(Integer.MAX_VALUE, 9999, DOWN));
        check.due("onTop, the least", -4294752548L, x.onTop(Integer.MIN_VALUE, 9999, UP));
        check.due("onTop, without a tax", Integer.MIN_VALUE, x.onTop(Integer.MIN_VALUE, 0, UP));
        dueWrongTax("onTop", x, (rate, way) -> () -> x.onTop(1, rate, way));
    }

    private void promise28Within() {
        Billwright x = new Billwright();
        check.due("within", 100, x.within(119, 1900, HALF_UP));
        // 15 / 1.2 is 12.5
        int[] dueByWay = {13, 12, 13, 12, 13, 12, 12};
        for (int way = 0; way <= HALF_EVEN; way++) {
            check.due("within by " + way, dueByWay[way], x.within(15, 2000, way));
            int mirrored = way == CEILING ? FLOOR : way == FLOOR ? CEILING : way;
            check.due("within below 0 by " + way, -dueByWay[mirrored], x.within(-15, 2000, way));
        }
        check.due("within, the greatest", 1073795513L, x.within(Integer.MAX_VALUE, 9999, DOWN));
        check.due("within, the least", -1073795514L, x.within(Integer.MIN_VALUE, 9999, UP));
        check.due("within, without a tax", Integer.MAX_VALUE, x.within(Integer.MAX_VALUE, 0, DOWN));
        dueWrongTax("within", x, (rate, way) -> () -> x.within(1, rate, way));
    }

    private void promise29Undone() {
        Billwright x = new Billwright();
        check.due("undone, less", -1, x.undone(1, 5000, DOWN, DOWN));
        check.due("undone, more", 1, x.undone(1, 5000, UP, UP));
        check.due("undone, up and down", 0, x.undone(1, 5000, UP, DOWN));
        check.due("undone, down and up", 0, x.undone(1, 5000, DOWN, UP));
        check.due("undone, below 0", -1, x.undone(-1, 5000, UP, UP));
        check.due("undone, the least", 0, x.undone(Integer.MIN_VALUE, 9999, HALF_EVEN, HALF_UP));
        dueWrongTax("undone, top", x, (rate, way) -> () -> x.undone(1, rate, way, 0));
        dueWrongTax("undone, out", x, (rate, way) -> () -> x.undone(1, rate, 0, way));
    }

    private void promise30Redone() {
        Billwright x = new Billwright();
        check.due("redone, more", 1, x.redone(1, 9999, UP, UP));
        check.due("redone, less", -1, x.redone(1, 9999, DOWN, DOWN));
        check.due("redone, less by two", -2, x.redone(3, 9999, DOWN, DOWN));
        check.due("redone, more by two", 2, x.redone(-3, 9999, CEILING, CEILING));
        check.due("redone, the greatest", -1, x.redone(Integer.MAX_VALUE, 9999, HALF_EVEN, HALF_EVEN));
        check.due("redone, as it was", 0, x.redone(119, 1900, HALF_UP, HALF_UP));
        dueWrongTax("redone, out", x, (rate, way) -> () -> x.redone(1, rate, way, 0));
        dueWrongTax("redone, top", x, (rate, way) -> () -> x.redone(1, rate, 0, way));
    }

    private void dueWrongTax(String what, Billwright x, BiFunction<Integer, Integer, Check.Call> callOf) {
        for (int rate : new int[] {-1, 10000, Integer.MIN_VALUE, Integer.MAX_VALUE}) {
            dueRefused(what + ", rate " + rate, x, ARGUMENT, callOf.apply(rate, 0));
        }
        for (int way : new int[] {-1, 7, Integer.MIN_VALUE, Integer.MAX_VALUE}) {
            dueRefused(what + ", way " + way, x, ARGUMENT, callOf.apply(0, way));
        }
    }

    private void dueWrongMoney(String what, Billwright x, Function<int[], Check.Call> callOf) {
        int[][] wrong = {
            {0, 0, 0}, {1000, 0, 0}, {-1, 0, 0}, {1, -1, 0}, {1, 4, 0}, {1, 0, -1}, {1, 0, 4},
            {Integer.MIN_VALUE, 0, 0}, {1, Integer.MAX_VALUE, 0}, {1, 0, Integer.MIN_VALUE},
        };
        for (int[] money : wrong) {
            dueRefused(what + ", money " + Arrays.toString(money), x, ARGUMENT, callOf.apply(money));
        }
    }

    private void promise31Abroad() {
        Billwright x = billOf(2, 100);
        check.due("abroad, 3", 3, x.abroad(0, 0, 3, 0, 0));
        check.due("abroad, 0.333", 33, x.abroad(0, 0, 333, 3, 2));
        check.due("abroad, 0.333 with three places", 333, x.abroad(0, 0, 333, 3, 3));
        Billwright half = billCutBy(2, CEILING, 3, 1001, -1001);
        check.due("abroad, of what is told alone: 1.01 times 1.5", 152, half.abroad(0, 0, 15, 1, 2));
        check.due("abroad, below 0: -1.00 times 1.5", -15, half.abroad(0, 1, 15, 1, 1));
        half.cutBy(0, 0, HALF_EVEN);
        check.due("abroad, half to the even one", 2, half.abroad(0, 0, 15, 1, 0));
        x.line(1, 0, -99999, 0, 99);
        x.rate(1, 0, 9999);
        x.cutBy(1, 3, HALF_EVEN);
        check.due("abroad, the least of all", -19779013197990L, x.abroad(1, 0, 999, 0, 3));
        dueNoSuchBill("abroad", x, bill -> () -> x.abroad(bill, 0, 0, 0, 0));
        dueNoSuchLine("abroad", x, at -> () -> x.abroad(0, at, 0, 0, 0));
        dueWrongMoney("abroad", x, money -> () -> x.abroad(0, 0, money[0], money[1], money[2]));
    }

    private void promise32Home() {
        Billwright x = billOf(2, 100, -100);
        check.due("home, as it was", 0, x.home(0, 0, 3, 0, 0));
        check.due("home, less: 0.33 back is 0.99", -1, x.home(0, 0, 333, 3, 2));
        check.due("home, more: 0.7 is told as 1 there", 43, x.home(0, 0, 7, 1, 0));
        x.cutBy(0, 2, FLOOR);
        check.due("home, less: 0.7 is told as 0 there", -100, x.home(0, 0, 7, 1, 0));
        check.due("home, below 0", -43, x.home(0, 1, 7, 1, 0));
        x.line(1, 0, -99999, 0, 99);
        x.rate(1, 0, 9999);
        x.cutBy(1, 3, HALF_EVEN);
        check.due("home, the least of all", 0, x.home(1, 0, 999, 0, 3));
        check.due("home, the least of all, of many digits", 0, x.home(1, 0, 999, 3, 3));
        check.due("home, the least of all, without places: -19779013 there", 198, x.home(1, 0, 999, 3, 0));
        dueNoSuchBill("home", x, bill -> () -> x.home(bill, 0, 0, 0, 0));
        dueNoSuchLine("home", x, at -> () -> x.home(0, at, 0, 0, 0));
        dueWrongMoney("home", x, money -> () -> x.home(0, 0, money[0], money[1], money[2]));
    }

    private void promise33Bound() {
        Billwright x = new Billwright();
        check.due("bound, half of 33.3 + 1", 17, x.bound(0, 3, 0, 0));
        check.due("bound, half of 142.9 + 1", 71, x.bound(0, 7, 1, 0));
        check.due("bound, half of 100 + 1", 50, x.bound(0, 1, 0, 0));
        check.due("bound, half of 1 + 1", 1, x.bound(0, 1, 0, 2));
        check.due("bound, the least there is worth less", 0, x.bound(0, 999, 0, 3));
        check.due("bound, 0.99", 0, x.bound(0, 101, 2, 2));
        for (int way = 0; way <= HALF_EVEN; way++) {
            x.cutBy(0, 3, way);
            check.due("bound, the greatest by " + way, way >= HALF_UP ? 500000 : 1000000, x.bound(0, 1, 3, 0));
            check.due("bound, 3.003 by " + way, way >= HALF_UP ? 2 : 4, x.bound(0, 333, 3, 3));
            check.due("bound, 1 by " + way, 1, x.bound(0, 1, 0, 3));
            check.due("bound, less than 1 by " + way, way >= HALF_UP ? 0 : 1, x.bound(0, 2, 0, 3));
        }
        dueNoSuchBill("bound", x, bill -> () -> x.bound(bill, 0, 0, 0));
        dueWrongMoney("bound", x, money -> () -> x.bound(0, money[0], money[1], money[2]));
    }

    private void dueDouble(String what, double want, double got) {
        check.due(what, Double.doubleToLongBits(want), Double.doubleToLongBits(got));
    }

    private void promise34Share() {
        Billwright x = billOf(3, 333, 333, 333);
        dueDouble("share, raised", 34.0 / 100.0, x.share(0, 0));
        dueDouble("share", 33.0 / 100.0, x.share(0, 2));
        dueDouble("share, all", 1.0, billOf(0, -7).share(0, 0));
        dueDouble("share, more than all", 3.0 / 2.0, billOf(2, 3, -1).share(0, 0));
        dueDouble("share, below 0", -1.0 / 2.0, billOf(2, 3, -1).share(0, 1));
        x.close(0, 2);
        dueDouble("share, closed by carrying", 33.0 / 100.0, x.share(0, 1));
        x.line(1, 0, 4, 3, 1);
        dueRefused("share, total of 0", x, ARITHMETIC, () -> (long) x.share(1, 0));
        dueRefused("share, total of 0, no such line", x, INDEX, () -> (long) x.share(1, 1));
        dueRefused("share, without lines", x, INDEX, () -> (long) x.share(2, 0));
        dueNoSuchBill("share", x, bill -> () -> (long) x.share(bill, 0));
        dueNoSuchLine("share", x, at -> () -> (long) x.share(0, at));
    }

    private void dueFloat(String what, float want, float got) {
        check.due(what, Float.floatToIntBits(want), Float.floatToIntBits(got));
    }

    private void promise35RaisedShare() {
        Billwright x = new Billwright();
        dueRefused("raisedShare, without lines", x, ARITHMETIC, () -> (long) x.raisedShare());
        addLines(x, 2, 3, 333, 333, 333);
        dueFloat("raisedShare", 1.0f / 3.0f, x.raisedShare());
        addLines(x, 0, 2, 1, 2);
        dueFloat("raisedShare, of two bills", 1.0f / 5.0f, x.raisedShare());
        addLines(x, 1, 3, 9, 9);
        dueFloat("raisedShare, of three bills", 3.0f / 7.0f, x.raisedShare());
        x.close(2, 1);
        dueFloat("raisedShare, closed", 3.0f / 7.0f, x.raisedShare());
        dueFloat("raisedShare, none", 0.0f, billOf(2, 1).raisedShare());
    }

    private static long sumOf(long... numbers) {
        long sum = 17;
        for (long number : numbers) {
            sum = sum * 31 + number;
        }
        return sum;
    }

    private void promise36Checksum() {
        Billwright x = new Billwright();
        x.line(0, 0, 1500, 3, -2);
        x.rate(0, 0, -700);
        x.line(0, 1, 333, 3, 1);
        x.cutBy(1, 0, UP);
        x.line(2, 0, -99999, 4, 99);
        check.due("checksum, open", sumOf(2, 6, 0, 2, 1500, 3, -2, -700, 0, 333, 3, 1, 0, 0,
                0, 0, 0, 0, 2, 6, 0, 1, -99999, 4, 99, 0, 0), x.checksum());
        x.close(0, 2);
        x.close(1, 1);
        long closed = sumOf(2, 6, 2, 2, 1500, 3, -2, -700, -279, 333, 3, 1, 0, 33,
                0, 0, 1, 0, 2, 6, 0, 1, -99999, 4, 99, 0, 0);
        check.due("checksum, closed", closed, x.checksum());
        check.due("checksum, again", closed, x.checksum());
        x.correct(0, 0, 1, 0, 1);
        check.due("checksum, corrected: 0.93 + 0.333 is 1.26", sumOf(2, 6, 2, 2, 1, 0, 1, -700, 93, 333, 3, 1, 0, 33,
                0, 0, 1, 0, 2, 6, 0, 1, -99999, 4, 99, 0, 0), x.checksum());
        x.open(0);
        check.due("checksum, opened", sumOf(2, 6, 0, 2, 1, 0, 1, -700, 0, 333, 3, 1, 0, 0,
                0, 0, 1, 0, 2, 6, 0, 1, -99999, 4, 99, 0, 0), x.checksum());
    }

    private void promise37IsSound() {
        for (int way = 0; way <= HALF_EVEN; way++) {
            for (int places = 0; places <= 3; places++) {
                Billwright x = billCutBy(places, way, 4, 1, -25000, 15000, 5, -5, 99999, 3333, 3333, -12345);
                check.due("isSound by " + way, true, x.isSound(0));
                check.due("isSound without lines", true, x.isSound(1));
                x.copy(0, 1);
                closeAndCorrect(x, 0, 1);
                closeAndCorrect(x, 1, 2);
            }
        }
        Billwright x = billCutBy(0, HALF_EVEN, 1, 5, 10);
        check.due("isSound, carried off by one by halves: 0.5 is told as 0, 1.0 as 2", 2, x.carried(0, 1));
        check.due("isSound, carried off by one by halves", true, x.isSound(0));
        dueNoSuchBill("isSound", x, bill -> () -> x.isSound(bill) ? 1 : 0);
    }

    private void closeAndCorrect(Billwright x, int bill, int how) {
        x.close(bill, how);
        check.due("isSound, closed", true, x.isSound(bill));
        x.correct(bill, 4, 99999, 4, -99);
        check.due("isSound, corrected", true, x.isSound(bill));
    }
}
