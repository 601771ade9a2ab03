/** What the promises 2 to 26 say that their calls do, each sentence on ordinary lines. */
final class PromiseSentences extends Sentences {
    PromiseSentences(Check check, Document document) {
        super(check, document);
    }

    @Override
    void run() {
        cutBy();
        rate();
        remove();
        lines();
        isSame();
        exactAmounts();
        toldAmounts();
        ranks();
        gapAndOff();
        close();
        told();
        correct();
    }

    private void cutBy() {
        promise(2);
        holds("Gives a bill its places and its way.", x -> {
            add(x, 0, 3, 1234);
            add(x, 1, 3, 1234);
            x.cutBy(1, 1, CEILING);
            due("its way", 'C', x.way(1));
            due("its places", 13, x.total(1));
            due("the way of another bill", 'e', x.way(0));
            due("the places of another bill", 123, x.total(0));
            dueLines("the lines stay", x, 1, 12340);
        });
        promise(3);
        holds("Tells the way of a bill.", x -> {
            for (int way = UP; way <= HALF_EVEN; way++) {
                x.cutBy(2, 2, way);
                due("way " + way, "UDCFude".charAt(way), x.way(2));
                due("way " + way + ", another bill", 'e', x.way(1));
            }
        });
    }

    private void rate() {
        promise(5);
        holds("Gives a line a rate.", x -> {
            add(x, 0, 0, 100, 100, 100);
            due("the one before", 0, x.rate(0, 1, 1900));
            dueLines("a tax of 19 per cent", x, 0, 1000000, 1190000, 1000000);
            due("the one before", 1900, x.rate(0, 1, -2500));
            dueLines("a quarter less", x, 0, 1000000, 750000, 1000000);
            dueLines("another bill", x, 1);
        });
    }

    private void remove() {
        promise(6);
        holds("Takes a line out.", x -> {
            add(x, 0, 0, 1, 2, 3, 4);
            due("left", 3, x.remove(0, 1));
            dueLines("the second one", x, 0, 10000, 30000, 40000);
            due("left", 2, x.remove(0, 2));
            dueLines("the last one", x, 0, 10000, 30000);
            due("left", 1, x.remove(0, 0));
            dueLines("the first one", x, 0, 30000);
        });
    }

    private void lines() {
        promise(11);
        holds("Tells how many lines a bill has.", x -> {
            for (int i = 1; i <= 9; i++) {
                add(x, 1, 0, i);
                due("after " + i, i, x.lines(1));
                due("another bill", 0, x.lines(0));
            }
        });
    }

    private void isSame() {
        promise(12);
        holds("Tells whether two bills have the same lines in the same order, by the equals() of lists:", x -> {
            add(x, 0, 0, 1, 2, 3);
            add(x, 1, 0, 1, 2);
            due("one line less", false, x.isSame(0, 1));
            due("one line more", false, x.isSame(1, 0));
            add(x, 1, 0, 3);
            due("the same lines", true, x.isSame(0, 1));
            x.move(1, 0, 2);
            due("in another order", false, x.isSame(0, 1));
            x.sort(1);
            due("in the same order again", true, x.isSame(1, 0));
            x.cutBy(1, 0, UP);
            x.close(1, CARRIED);
            due("cut otherwise, and closed", true, x.isSame(0, 1));
        });
    }

    private void exactAmounts() {
        promise(13);
        holds("Tells the exact amount of a line.", x -> {
            addAt(x, 0, 1900, 1999, 2, 3);
            due("19.99, 3 times, and 19 per cent", 7136430000L, x.exact(0, 0));
        });
        promise(14);
        holds("Tells the whole of a bill.", x -> {
            addAt(x, 0, 1900, 1999, 2, 3);
            addAt(x, 0, -1000, -5, 1, 1);
            due("71.3643 less 0.45", 7091430000L, x.whole(0));
        });
        promise(15);
        holds("Tells the total of a bill.", x -> {
            addAt(x, 0, 1900, 1999, 2, 3);
            addAt(x, 0, -1000, -5, 1, 1);
            due("70.9143", 7091, x.total(0));
            x.cutBy(0, 1, UP);
            due("70.9143 up", 710, x.total(0));
        });
    }

    private void toldAmounts() {
        // 0.126, 0.124, -0.128 and 0.12 are 0.242; to the floor they are 0.12, 0.12, -0.13 and 0.12: 0.01 below 0.24.
        int[] prices = {126, 124, -128, 120};
        promise(16);
        holds("Tells what a line is alone.", x -> {
            add(x, 0, 3, prices);
            dueRow("alone", new long[] {13, 12, -13, 12}, new long[] {
                x.alone(0, 0), x.alone(0, 1), x.alone(0, 2), x.alone(0, 3)});
        });
        promise(17);
        holds("Tells what a line is by the greatest rests.", x -> {
            add(x, 0, 3, prices);
            dueRow("by rests", new long[] {13, 12, -13, 12}, new long[] {
                x.byRests(0, 0), x.byRests(0, 1), x.byRests(0, 2), x.byRests(0, 3)});
            x.cutBy(0, 2, UP);
            dueRow("by rests, total 0.25", new long[] {13, 13, -13, 12}, new long[] {
                x.byRests(0, 0), x.byRests(0, 1), x.byRests(0, 2), x.byRests(0, 3)});
        });
        promise(18);
        holds("Tells what a line is by carrying the rest along.", x -> {
            add(x, 0, 3, prices);
            // 0.126, 0.25, 0.122 and 0.242
            dueRow("carried", new long[] {13, 12, -13, 12}, new long[] {
                x.carried(0, 0), x.carried(0, 1), x.carried(0, 2), x.carried(0, 3)});
            x.cutBy(0, 2, UP);
            dueRow("carried, up", new long[] {13, 12, -12, 12}, new long[] {
                x.carried(0, 0), x.carried(0, 1), x.carried(0, 2), x.carried(0, 3)});
        });
    }

    private void dueRow(String what, long[] want, long[] got) {
        for (int i = 0; i < want.length; i++) {
            due(what + ", line " + i, want[i], got[i]);
        }
    }

    private void ranks() {
        promise(19);
        holds("Tells the place of a line among those of its bill by their rests, the greatest one first, of like ones"
                + " the earlier line.", x -> {
            add(x, 0, 3, 15, 25, -5, 9, 1011);
            add(x, 1, 3, 9, 9, 9);
            // 0.005, 0.005, 0.005, 0.009 and 0.001
            dueRow("rank", new long[] {1, 2, 3, 0, 4}, new long[] {
                x.rank(0, 0), x.rank(0, 1), x.rank(0, 2), x.rank(0, 3), x.rank(0, 4)});
        });
        promise(20);
        holds("Tells how many lines are told one of the least money more by the greatest rests than they are, cut to"
                + " the floor.", x -> {
            add(x, 0, 3, 15, 25, -5, 9, 1011);
            // 1.055, and to the floor 0.01, 0.02, -0.01, 0 and 1.01
            int[] want = {3, 2, 3, 2, 3, 2, 3};
            for (int way = UP; way <= HALF_EVEN; way++) {
                x.cutBy(0, 2, way);
                due("by " + way, want[way], x.raised(0));
            }
        });
    }

    private void gapAndOff() {
        promise(21);
        holds("Tells by how much lines, each told alone, add up to more than the total.", x -> {
            add(x, 0, 3, 6, 6, 6);
            add(x, 1, 3, 4, 4, 4);
            due("0.01 each, 0.02 together", 1, x.gap(0));
            due("nothing each, 0.01 together", -1, x.gap(1));
            due("no lines", 0, x.gap(2));
        });
        promise(22);
        holds("Tells how far off the lines of a bill are, all taken together, without signs.", x -> {
            add(x, 0, 3, 4, 2, 9);
            // 0.015 is 0.02. Alone nothing, nothing and 0.01; by rests 0.01, nothing and 0.01; carried nothing, 0.01
            // and 0.01.
            due("alone", 700000, x.off(0, ALONE));
            due("by rests", 900000, x.off(0, BY_RESTS));
            due("carried", 1300000, x.off(0, CARRIED));
            add(x, 1, 3, -4, -2, -9);
            due("alone, below 0", 700000, x.off(1, ALONE));
            // To the floor they are -0.01 each, and one of them is raised: the one with the rest 0.008.
            due("by rests, below 0", 900000, x.off(1, BY_RESTS));
            due("carried, below 0", 1300000, x.off(1, CARRIED));
            due("no lines", 0, x.off(2, BY_RESTS));
        });
    }

    private void close() {
        promise(23);
        holds("Closes a bill.", x -> {
            add(x, 1, 3, 333, 333, 333);
            due("otherwise than alone", 1, x.close(1, BY_RESTS));
            refused("a closed one", x, STATE, () -> x.remove(1, 0));
            due("told", 34, x.told(1, 0));
            due("an open one", 1, x.line(0, 0, 1, 0, 1));
            refused("an open one", x, STATE, () -> x.told(0, 0));
        });
    }

    private void told() {
        promise(24);
        holds("Tells the amount of a line that was told as its bill was closed, or corrected later on.", x -> {
            add(x, 0, 3, 333, 333, 333);
            x.close(0, CARRIED);
            dueRow("as it was closed", new long[] {33, 34, 33}, new long[] {
                x.told(0, 0), x.told(0, 1), x.told(0, 2)});
            x.correct(0, 1, 500, 3, 1);
            dueRow("corrected", new long[] {33, 51, 33}, new long[] {
                x.told(0, 0), x.told(0, 1), x.told(0, 2)});
        });
    }

    private void correct() {
        promise(25);
        holds("Corrects a line of a closed bill: gives it another price and count;", x -> {
            add(x, 0, 3, 333, 333, 333);
            x.close(0, BY_RESTS);
            x.correct(0, 1, 25, 1, 4);
            dueLines("2.5, 4 times", x, 0, 3330, 100000, 3330);
            due("the whole", 1066600000L, x.whole(0));
            due("the total", 1067, x.total(0));
        });
        holds("Its told amount is then the total, as it is now, less the told amounts of all other lines, which stay.",
                x -> {
            add(x, 0, 3, 333, 333, 333);
            x.close(0, BY_RESTS);
            due("10.67 less 0.34 and 0.33", 1000, x.correct(0, 1, 25, 1, 4));
            dueRow("told", new long[] {34, 1000, 33}, new long[] {x.told(0, 0), x.told(0, 1), x.told(0, 2)});
            due("10.33 less 10.00 and 0.33", 0, x.correct(0, 0, 0, 0, 1));
            dueRow("told", new long[] {0, 1000, 33}, new long[] {x.told(0, 0), x.told(0, 1), x.told(0, 2)});
        });
    }
}
