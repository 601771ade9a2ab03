/** What the promises 27 to 37 say that their calls do, each sentence on ordinary amounts. */
final class TogetherSentences extends Sentences {
    private static final int[][] ROWS = {
        {333, 333, 333}, {5, 15, -5, 25}, {-7, 3, -6, -14, 8}, {126, 124, -128, 120}, {1, 1, 1, 1, 1, 1, 1, 1, 1},
    };

    TogetherSentences(Check check, Document document) {
        super(check, document);
    }

    @Override
    void run() {
        taxes();
        anotherMoney();
        shares();
        checksum();
        isSound();
    }

    private void taxes() {
        promise(27);
        holds("Puts a tax on top of an amount.", x -> due("19 per cent on 100", 119, x.onTop(100, 1900, HALF_EVEN)));
        promise(28);
        holds("Takes a tax out of an amount.", x -> due("19 per cent in 119", 100, x.within(119, 1900, HALF_EVEN)));
        promise(29);
        holds("Puts a tax on top of an amount, and takes it out again.", x -> {
            due("3 is 3.57, that is 4; 4 is 3.36.., that is 4", 1, x.undone(3, 1900, UP, UP));
            due("3 is 3.57, that is 3; 3 is 2.52.., that is 2", -1, x.undone(3, 1900, DOWN, DOWN));
            due("3 is 3.57, that is 4; 4 is 3.36.., that is 3", 0, x.undone(3, 1900, UP, DOWN));
            due("3 is 3.57, that is 3; 3 is 2.52.., that is 3", 0, x.undone(3, 1900, DOWN, UP));
        });
        promise(30);
        holds("Takes a tax out of an amount, and puts it on top again.", x -> {
            due("3 is 2.52.., that is 3; 3 is 3.57, that is 4", 1, x.redone(3, 1900, UP, UP));
            due("3 is 2.52.., that is 2; 2 is 2.38, that is 2", -1, x.redone(3, 1900, DOWN, DOWN));
            due("3 is 2.52.., that is 3; 3 is 3.57, that is 3", 0, x.redone(3, 1900, UP, DOWN));
            due("3 is 2.52.., that is 2; 2 is 2.38, that is 3", 0, x.redone(3, 1900, DOWN, UP));
        });
    }

    private void anotherMoney() {
        promise(31);
        holds("Tells what a line is in another money.", x -> {
            add(x, 0, 2, 1234, 5678);
            due("12.34 at 1.09", 1345, x.abroad(0, 0, 109, 2, 2));
            due("56.78 at 158, without places", 8971, x.abroad(0, 1, 158, 0, 0));
        });
        promise(32);
        holds("Tells by how much a line, in another money and back, is more than it is alone.", x -> {
            add(x, 0, 2, 1234, -1234);
            // 12.34 at 0.01 is 0.1234, there 0.12, and here 12; up it is 0.13, and here 13.
            due("12.00", -34, x.home(0, 0, 1, 2, 2));
            due("-12.00", 34, x.home(0, 1, 1, 2, 2));
            x.cutBy(0, 2, UP);
            due("13.00", 66, x.home(0, 0, 1, 2, 2));
            due("-13.00", -66, x.home(0, 1, 1, 2, 2));
        });
    }

    private void shares() {
        promise(34);
        holds("Tells the share of a line, told by the greatest rests, in the total.", x -> {
            add(x, 0, 3, 333, 333, 333, 1);
            dueDouble("0.34 of 1", 0.34, x.share(0, 0));
            dueDouble("0.33 of 1", 0.33, x.share(0, 1));
            dueDouble("nothing of 1", 0.0, x.share(0, 3));
            x.cutBy(0, 0, UP);
            dueDouble("1 of 1", 1.0, x.share(0, 0));
        });
        promise(35);
        holds("Tells the share of the lines that are raised.", x -> {
            add(x, 0, 3, 333, 333, 333);
            add(x, 1, 3, 6, 6);
            add(x, 2, 3, 4);
            dueFloat("one of three, one of two, and none of one", 2.0f / 6.0f, x.raisedShare());
        });
    }

    private void checksum() {
        promise(36);
        holds("Tells a number of all that is kept:", x -> {
            long[] sums = new long[10];
            sums[0] = x.checksum();
            add(x, 0, 3, 333);
            sums[1] = x.checksum();
            x.rate(0, 0, 1);
            sums[2] = x.checksum();
            x.cutBy(0, 2, UP);
            sums[3] = x.checksum();
            x.cutBy(0, 1, UP);
            sums[4] = x.checksum();
            x.close(0, BY_RESTS);
            sums[5] = x.checksum();
            x.correct(0, 0, 3330, 4, 1);
            sums[6] = x.checksum();
            x.correct(0, 0, 3330, 4, 2);
            sums[7] = x.checksum();
            x.open(0);
            sums[8] = x.checksum();
            x.copy(0, 1);
            sums[9] = x.checksum();
            for (int i = 0; i < sums.length; i++) {
                for (int j = 0; j < i; j++) {
                    due("as before, changes " + i + " and " + j, false, sums[i] == sums[j]);
                }
            }
            x.remove(0, 0);
            x.cutBy(0, 2, HALF_EVEN);
            x.remove(1, 0);
            x.cutBy(1, 2, HALF_EVEN);
            due("all as at first", sums[0], x.checksum());
        });
        holds("for each bill its places, its way, how it was closed (0 if it is open), how many lines it has, and for"
                + " each line its price as it was given, the digits behind the point, the count, the rate, and its told"
                + " amount, 0 if the bill is open.", x -> {
            addAt(x, 1, 7, 50, 1, 3);
            x.cutBy(1, 3, CEILING);
            x.close(1, CARRIED);
            // 5.0, 3 times, and 0.07 per cent are 15.0105.
            long want = 17;
            for (int number : new int[] {2, 6, 0, 0, 3, 2, 2, 1, 50, 1, 3, 7, 15011, 2, 6, 0, 0}) {
                want = want * 31 + number;
            }
            due("one closed bill of one line", want, x.checksum());
        });
    }

    private void isSound() {
        promise(37);
        holds("Looks whether what is told in the theorem about the lines of a bill is true of one bill, as it is now:"
                + " told by the greatest rests, by carrying the rest along, and, if it is closed, as they are told,"
                + " whether they add up to the total; how far each line is off by the first two; that an exact amount"
                + " that needs no cut is told as it is by the greatest rests; and that these are not off by more than"
                + " by carrying.", x -> {
            for (int[] row : ROWS) {
                for (int way = UP; way <= HALF_EVEN; way++) {
                    Billwright y = cut(2, way, 3, row);
                    String what = row.length + " lines by " + way;
                    due(what, true, y.isSound(0));
                    y.close(0, way % 2 == 0 ? BY_RESTS : CARRIED);
                    due(what + ", closed", true, y.isSound(0));
                    y.correct(0, 1, 77, 4, -9);
                    due(what + ", corrected", true, y.isSound(0));
                    y.open(0);
                    due(what + ", opened", true, y.isSound(0));
                    due(what + ", another bill", true, y.isSound(1));
                }
            }
        });
    }
}
