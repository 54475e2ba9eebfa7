/** Promises 6 to 11, sentence by sentence: table, share, learn, shares, cost, as. */
public final class TableSentencesTest {
    private static final Due DUE = new Due("TableSentencesTest");

    public static void main(String[] args) {
        tableAndShare();
        learnAndShares();
        costAndAs();
        DUE.end();
    }

    private static void tableAndShare() {
        Part part = Part.promise(DUE, 6);
        part.says("A new table: its number.", TableSentencesTest::table);
        part.says("BEYOND: kind is not 0 to 4, or r not 8 to 12.", TableSentencesTest::tableBeyond);
        part.says("FULL: there are 10.", TableSentencesTest::tableFull);
        part.end();
        part = Part.promise(DUE, 7);
        part.says("A sign's shares in a FIXED table: how many all have then.", TableSentencesTest::share);
        part.says("BEYOND: no such table.", TableSentencesTest::shareNoTable);
        part.says("KIND: it is of another kind than 0.", TableSentencesTest::shareKind);
        part.says("BEYOND: sign, or f is not 0 to M.", TableSentencesTest::shareBeyond);
        part.says("FULL: all would have more than M.", TableSentencesTest::shareFull);
        part.end();
    }

    private static void learnAndShares() {
        Part part = Part.promise(DUE, 8);
        part.says("A LEARNT or MIXED table gets its deal (its four) by how often each sign is in a row"
                + " (for each of the four: with the sign ahead as told). 0.", TableSentencesTest::learn);
        part.says("BEYOND: no such table, or row.", TableSentencesTest::learnBeyond);
        part.says("KIND: it is of another kind than 2 and 3.", TableSentencesTest::learnKind);
        part.says("NOUGHT: the row is empty.", TableSentencesTest::learnNought);
        part.end();
        part = Part.promise(DUE, 9);
        part.says("A sign's shares (begin: its begin instead) in a deal of a table (part 0 to 3 of MIXED, 0 of others;"
                + " of GROWING as it begins).", TableSentencesTest::shares);
        part.says("BEYOND: no such table, part, or sign.", TableSentencesTest::sharesBeyond);
        part.says("OPEN.", TableSentencesTest::sharesOpen);
        part.end();
    }

    private static void costAndAs() {
        Part part = Part.promise(DUE, 10);
        part.says("The COST of a deal by the counts of a row", TableSentencesTest::cost);
        part.says("(signs that it has no shares for: MISSING, told(0) is the first place of such a one).",
                TableSentencesTest::costFirstMissing);
        part.says("BEYOND: no such table, part (as of shares()), or row.", TableSentencesTest::costBeyond);
        part.says("OPEN.", TableSentencesTest::costOpen);
        part.says("MISSING.", TableSentencesTest::costMissing);
        part.end();
        part = Part.promise(DUE, 11);
        part.says("A table as one of a kind: its number.", TableSentencesTest::as);
        part.says("BEYOND: no such table, or kind is not 0 to 4.", TableSentencesTest::asBeyond);
        part.says("KIND: it is of another one (a MIXED table is a LEARNT one, too, a LEARNT one a FIXED one).",
                TableSentencesTest::asKind);
        part.end();
    }

    /** Tables 0 to 4 are of kinds 0 to 4. */
    private static BalanceCoder oneOfEach(int r) {
        BalanceCoder x = new BalanceCoder();
        for (int kind = 0; kind <= 4; kind++) {
            x.table(kind, r);
        }
        return x;
    }

    private static void table() {
        for (int kind = 0; kind <= 4; kind++) {
            BalanceCoder x = new BalanceCoder();
            for (int r = 8; r <= 12; r++) {
                DUE.due("table(" + kind + ", " + r + ")", x.table(kind, r), r - 8);
                DUE.due("table: it is of its kind", x.as(r - 8, kind), r - 8);
            }
            DUE.due("table: told(2)", x.told(2), 5);
        }
    }

    private static void tableBeyond() {
        BalanceCoder x = new BalanceCoder();
        for (int kind : Make.beside(0, 4)) {
            DUE.due("table(" + kind + ", 8)", x.table(kind, 8), -1);
        }
        for (int r : Make.beside(8, 12)) {
            DUE.due("table(1, " + r + ")", x.table(1, r), -1);
        }
        DUE.due("table: r as kind, kind as r", x.table(8, 4), -1);
        DUE.due("table: none was made", x.told(2), 0);
        DUE.due("table: the first is 0", x.table(1, 8), 0);
    }

    private static void tableFull() {
        BalanceCoder x = new BalanceCoder();
        for (int number = 0; number < 10; number++) {
            DUE.due("table " + number, x.table(1, 8), number);
        }
        for (int kind = 0; kind <= 4; kind++) {
            DUE.due("an eleventh table, of kind " + kind, x.table(kind, 12), -2);
        }
        DUE.due("an eleventh table of no kind", x.table(5, 8), -1);
        DUE.due("an eleventh table of no r", x.table(1, 13), -1);
        DUE.due("table: still 10", x.told(2), 10);
        DUE.due("table: the last stays as it is", x.shares(9, 0, 255, true), 255);
        DUE.due("table: no eleventh", x.as(10, 1), -1);
    }

    private static void share() {
        for (int r = 8; r <= 12; r++) {
            int all = 1 << r;
            BalanceCoder x = new BalanceCoder();
            x.table(0, r);
            DUE.due("share of none", x.share(0, 0, 0), 0);
            DUE.due("share of one", x.share(0, 0, 1), 1);
            DUE.due("share of the highest sign", x.share(0, 255, all - 1), all);
            DUE.due("share: told anew, alike", x.share(0, 255, all - 1), all);
            DUE.due("share: told anew, none", x.share(0, 255, 0), 1);
            DUE.due("share: told anew, all", x.share(0, 0, all), all);
            DUE.due("share: it has all", x.shares(0, 0, 0, false), all);
        }
    }

    private static void shareNoTable() {
        BalanceCoder x = new BalanceCoder();
        DUE.due("share with no table", x.share(0, 0, 0), -1);
        x.table(0, 8);
        for (int table : Make.beside(0, 0)) {
            DUE.due("share(" + table + ", 0, 1)", x.share(table, 0, 1), -1);
        }
        DUE.due("share: nothing came", x.share(0, 1, 0), 0);
    }

    private static void shareKind() {
        BalanceCoder x = oneOfEach(8);
        Make.put(x, 0, 1);
        x.learn(2, 0);
        x.learn(3, 0);
        for (int kind = 1; kind <= 4; kind++) {
            DUE.due("share of kind " + kind, x.share(kind, 1, 1), -3);
            DUE.due("share of kind " + kind + ", no such sign", x.share(kind, 256, 1), -3);
            DUE.due("share of kind " + kind + ", f below 0", x.share(kind, 1, -1), -3);
            DUE.due("share of kind " + kind + ", more than M", x.share(kind, 2, 256), -3);
        }
        DUE.due("share: LEARNT stays", x.shares(2, 0, 1, false), 256);
        DUE.due("share of kind 0", x.share(0, 1, 1), 1);
    }

    private static void shareBeyond() {
        for (int r = 8; r <= 12; r++) {
            int all = 1 << r;
            BalanceCoder x = new BalanceCoder();
            x.table(0, r);
            for (int sign : Make.beside(0, 255)) {
                DUE.due("share(0, " + sign + ", 1)", x.share(0, sign, 1), -1);
            }
            for (int f : Make.beside(0, all)) {
                DUE.due("share(0, 7, " + f + ") of " + all, x.share(0, 7, f), -1);
            }
            DUE.due("share: nothing came", x.share(0, 7, all), all);
            DUE.due("share: beyond ahead of FULL", x.share(0, 8, all + 1), -1);
        }
    }

    private static void shareFull() {
        BalanceCoder x = new BalanceCoder();
        x.table(0, 8);
        x.share(0, 4, 255);
        DUE.due("share to 257", x.share(0, 5, 2), -2);
        DUE.due("share of all beside 255", x.share(0, 5, 256), -2);
        DUE.due("share to 256", x.share(0, 5, 1), 256);
        DUE.due("share of one more", x.share(0, 6, 1), -2);
        DUE.due("share of one more to one that has", x.share(0, 5, 2), -2);
        DUE.due("share: refused ones change nothing", x.shares(0, 0, 5, false), 1);
        DUE.due("share: refused ones change nothing", x.shares(0, 0, 6, false), 0);
        DUE.due("share of none when all are told", x.share(0, 6, 0), 256);
        DUE.due("share of fewer", x.share(0, 4, 254), 255);
        DUE.due("share: told in place, not beside", x.share(0, 4, 255), 256);
    }

    private static void learn() {
        BalanceCoder x = oneOfEach(12);
        Make.put(x, 0, 200);
        DUE.due("learn of one sign", x.learn(2, 0), 0);
        DUE.due("learn of one sign: it has all", x.shares(2, 0, 200, false), 4096);
        DUE.due("MIXED learns of one sign", x.learn(3, 0), 0);
        DUE.due("MIXED: the first sign counts behind 0", x.shares(3, 0, 200, false), 4096);
        for (int part = 1; part <= 3; part++) {
            DUE.due("MIXED: no counts in part " + part, x.shares(3, part, 200, false), 16);
        }
        Make.put(x, 1, 255, 254, 253, 252);
        DUE.due("MIXED learns anew", x.learn(3, 1), 0);
        DUE.due("MIXED: 255 is behind 0", x.shares(3, 0, 255, false), 4096);
        DUE.due("MIXED: 254 is behind 3", x.shares(3, 3, 254, false), 4096);
        DUE.due("MIXED: 253 is behind 2", x.shares(3, 2, 253, false), 4096);
        DUE.due("MIXED: 252 is behind 1", x.shares(3, 1, 252, false), 4096);
        DUE.due("MIXED: nothing of before", x.shares(3, 0, 200, false), 0);
        Make.fill(x, 2, 1, 399);
        Make.put(x, 2, 0);
        DUE.due("learn of a full row", x.learn(2, 2), 0);
        DUE.due("learn: the last sign counts", x.shares(2, 0, 0, false) > 0 ? 1 : 0, 1);
        DUE.due("learn: nothing of before", x.shares(2, 0, 200, false), 0);
        x.clear(2);
        DUE.due("learn: the deal stays without the row", x.shares(2, 0, 255, true), 4096);
    }

    private static void learnBeyond() {
        BalanceCoder x = new BalanceCoder();
        Make.put(x, 0, 1);
        DUE.due("learn with no table", x.learn(0, 0), -1);
        x.table(2, 8);
        for (int table : Make.beside(0, 0)) {
            DUE.due("learn(" + table + ", 0)", x.learn(table, 0), -1);
        }
        for (int p : Make.beside(0, 5)) {
            DUE.due("learn(0, " + p + ")", x.learn(0, p), -1);
        }
        x.table(1, 8);
        DUE.due("learn: no row, ahead of KIND", x.learn(1, 6), -1);
        DUE.due("learn: it is open still", x.shares(0, 0, 1, false), -4);
    }

    private static void learnKind() {
        BalanceCoder x = oneOfEach(9);
        Make.put(x, 0, 1);
        for (int kind : new int[] {0, 1, 4}) {
            DUE.due("learn by kind " + kind, x.learn(kind, 0), -3);
            DUE.due("learn by kind " + kind + ", of an empty row", x.learn(kind, 1), -3);
        }
        DUE.due("learn: FIXED is open still", x.shares(0, 0, 1, false), -4);
        DUE.due("learn: FLAT stays", x.shares(1, 0, 1, false), 2);
        DUE.due("learn: GROWING stays", x.shares(4, 0, 1, false), 2);
    }

    private static void learnNought() {
        BalanceCoder x = oneOfEach(8);
        for (int p = 0; p < 6; p++) {
            DUE.due("LEARNT learns of empty row " + p, x.learn(2, p), -7);
            DUE.due("MIXED learns of empty row " + p, x.learn(3, p), -7);
        }
        DUE.due("LEARNT is open still", x.shares(2, 0, 0, false), -4);
        DUE.due("MIXED is open still", x.shares(3, 0, 0, false), -4);
        Make.put(x, 0, 9);
        x.learn(2, 0);
        x.learn(3, 0);
        x.clear(0);
        DUE.due("LEARNT learns of a cleared row", x.learn(2, 0), -7);
        DUE.due("MIXED learns of a cleared row", x.learn(3, 0), -7);
        DUE.due("LEARNT keeps its deal", x.shares(2, 0, 9, false), 256);
        DUE.due("MIXED keeps its deals", x.shares(3, 0, 9, false), 256);
    }

    private static void shares() {
        for (int r = 8; r <= 12; r++) {
            int each = 1 << (r - 8);
            BalanceCoder x = oneOfEach(r);
            for (int table : new int[] {1, 4}) {
                DUE.due("shares of the first sign", x.shares(table, 0, 0, false), each);
                DUE.due("begin of the first sign", x.shares(table, 0, 0, true), 0);
                DUE.due("shares of the last sign", x.shares(table, 0, 255, false), each);
                DUE.due("begin of the last sign", x.shares(table, 0, 255, true), 255 * each);
            }
            Make.fill(x, 0, 5, 9);
            x.pack(4, 0, 1);
            DUE.due("GROWING as it begins, behind pack()", x.shares(4, 0, 5, false), each);
            x.take(1);
            DUE.due("GROWING as it begins, behind take()", x.shares(4, 0, 0, false), each);
            Make.put(x, 2, 0, 255);
            x.learn(3, 2);
            // 1000000 / k, cut, is 488 for k from 2046 to 2049: the lower sign gets all shares that cost no more.
            int half = r == 12 ? 2050 : 128 * each;
            DUE.due("part 0 of MIXED, shares", x.shares(3, 0, 255, false), 256 * each - half);
            DUE.due("part 0 of MIXED, begin", x.shares(3, 0, 255, true), half);
            DUE.due("part 0 of MIXED, begin of one with no shares", x.shares(3, 0, 254, true), half);
            DUE.due("part 3 of MIXED, begin", x.shares(3, 3, 255, true), 255 * each);
        }
    }

    private static void sharesBeyond() {
        BalanceCoder x = new BalanceCoder();
        DUE.due("shares with no table", x.shares(0, 0, 0, false), -1);
        x = oneOfEach(8);
        Make.put(x, 0, 1);
        x.learn(2, 0);
        x.learn(3, 0);
        for (int table : Make.beside(0, 4)) {
            DUE.due("shares(" + table + ", 0, 0)", x.shares(table, 0, 0, false), -1);
        }
        for (int sign : Make.beside(0, 255)) {
            DUE.due("shares(1, 0, " + sign + ")", x.shares(1, 0, sign, false), -1);
            DUE.due("begin(1, 0, " + sign + ")", x.shares(1, 0, sign, true), -1);
        }
        for (int table = 0; table <= 4; table++) {
            for (int part : Make.beside(0, table == 3 ? 3 : 0)) {
                DUE.due("shares(" + table + ", " + part + ", 0)", x.shares(table, part, 0, false), -1);
            }
        }
    }

    private static void sharesOpen() {
        BalanceCoder x = oneOfEach(8);
        DUE.due("FIXED", x.shares(0, 0, 0, false), -4);
        DUE.due("LEARNT", x.shares(2, 0, 0, true), -4);
        for (int part = 0; part <= 3; part++) {
            DUE.due("MIXED, part " + part, x.shares(3, part, 0, false), -4);
        }
        DUE.due("FIXED, no such part", x.shares(0, 1, 0, false), -1);
        DUE.due("MIXED, no such part", x.shares(3, 4, 0, false), -1);
        DUE.due("LEARNT, no such sign", x.shares(2, 0, 256, true), -1);
        x.share(0, 0, 255);
        DUE.due("FIXED, one share is not told", x.shares(0, 0, 0, false), -4);
        x.share(0, 0, 256);
        DUE.due("FIXED, all shares are told", x.shares(0, 0, 0, false), 256);
        x.share(0, 0, 0);
        DUE.due("FIXED, none is told any more", x.shares(0, 0, 0, true), -4);
    }

    private static long sumFrom(int from, int all) {
        long sum = 0;
        for (int k = from; k < all; k++) {
            sum += 1000000 / k;
        }
        return sum;
    }

    private static void cost() {
        for (int r = 8; r <= 12; r++) {
            int all = 1 << r;
            BalanceCoder x = new BalanceCoder();
            Make.fixed(x, r, 0, 1, 255, all - 1);
            x.table(4, r);
            x.table(3, r);
            DUE.due("cost of an empty row", x.cost(0, 0, 0), 0);
            Make.put(x, 0, 0);
            DUE.due("cost of one share", x.cost(0, 0, 0), sumFrom(1, all));
            Make.put(x, 1, 255);
            DUE.due("cost of all shares but one", x.cost(0, 0, 1), 1000000 / (all - 1));
            x.share(0, 0, 0);
            x.share(0, 255, all);
            DUE.due("cost of all shares", x.cost(0, 0, 1), 0);
            DUE.due("cost by GROWING as it begins", x.cost(1, 0, 1), sumFrom(all / 256, all));
            x.learn(2, 1);
            for (int part = 0; part <= 3; part++) {
                DUE.due("cost by part " + part, x.cost(2, part, 1), part == 0 ? 0 : sumFrom(all / 256, all));
            }
        }
        BalanceCoder x = new BalanceCoder();
        Make.fixed(x, 12, 9, 1, 8, 4095);
        Make.fill(x, 0, 9, 400);
        DUE.due("cost that no int holds", x.cost(0, 0, 0), 400 * sumFrom(1, 4096));
        DUE.holds("cost that no int holds", x.cost(0, 0, 0) > Integer.MAX_VALUE);
    }

    private static void costFirstMissing() {
        BalanceCoder x = new BalanceCoder();
        Make.fixed(x, 8, 1, 256);
        Make.put(x, 0, 1, 2, 1, 3);
        DUE.due("cost, missing twice", x.cost(0, 0, 0), -5);
        DUE.due("cost: the first place", x.told(0), 1);
        Make.fill(x, 1, 1, 399);
        Make.put(x, 1, 0);
        DUE.due("cost, the last one missing", x.cost(0, 0, 1), -5);
        DUE.due("cost: the last place", x.told(0), 399);
        Make.put(x, 2, 255);
        DUE.due("cost, the only one missing", x.cost(0, 0, 2), -5);
        DUE.due("cost: place 0", x.told(0), 0);
    }

    private static void costBeyond() {
        BalanceCoder x = new BalanceCoder();
        DUE.due("cost with no table", x.cost(0, 0, 0), -1);
        x = oneOfEach(8);
        for (int table : Make.beside(0, 4)) {
            DUE.due("cost(" + table + ", 0, 0)", x.cost(table, 0, 0), -1);
        }
        for (int table = 0; table <= 4; table++) {
            for (int part : Make.beside(0, table == 3 ? 3 : 0)) {
                DUE.due("cost(" + table + ", " + part + ", 0)", x.cost(table, part, 0), -1);
            }
            for (int p : Make.beside(0, 5)) {
                DUE.due("cost(" + table + ", 0, " + p + ")", x.cost(table, 0, p), -1);
            }
        }
    }

    private static void costOpen() {
        BalanceCoder x = oneOfEach(8);
        x.share(0, 1, 255);
        Make.put(x, 0, 2);
        DUE.due("cost by FIXED, ahead of MISSING", x.cost(0, 0, 0), -4);
        DUE.due("cost by LEARNT, of an empty row", x.cost(2, 0, 1), -4);
        for (int part = 0; part <= 3; part++) {
            DUE.due("cost by MIXED, part " + part, x.cost(3, part, 0), -4);
        }
        DUE.due("cost: nothing is missing", x.told(0), 0);
    }

    private static void costMissing() {
        BalanceCoder x = oneOfEach(8);
        Make.put(x, 0, 1, 2);
        Make.put(x, 1, 1, 2, 2, 3);
        x.learn(2, 0);
        x.learn(3, 0);
        DUE.due("LEARNT has none for it", x.cost(2, 0, 1), -5);
        DUE.due("LEARNT: where", x.told(0), 3);
        DUE.due("part 0 of MIXED has none for it", x.cost(3, 0, 1), -5);
        DUE.due("part 0 of MIXED: where", x.told(0), 1);
        DUE.due("part 1 of MIXED has none for it", x.cost(3, 1, 1), -5);
        DUE.due("part 1 of MIXED: where", x.told(0), 0);
        DUE.due("part 2 of MIXED has some for each", x.cost(3, 2, 1), 4 * sumFrom(1, 256));
        DUE.due("no MISSING: told(0) stays", x.told(0), 0);
    }

    private static void as() {
        BalanceCoder x = new BalanceCoder();
        for (int number = 0; number < 10; number++) {
            x.table(number % 5, 8);
        }
        for (int number = 0; number < 10; number++) {
            DUE.due("as(" + number + ", its kind)", x.as(number, number % 5), number);
        }
    }

    private static void asBeyond() {
        BalanceCoder x = new BalanceCoder();
        DUE.due("as with no table", x.as(0, 0), -1);
        x = oneOfEach(8);
        for (int table : Make.beside(0, 4)) {
            DUE.due("as(" + table + ", 0)", x.as(table, 0), -1);
        }
        for (int kind : Make.beside(0, 4)) {
            for (int table = 0; table <= 4; table++) {
                DUE.due("as(" + table + ", " + kind + ")", x.as(table, kind), -1);
            }
        }
    }

    private static void asKind() {
        BalanceCoder x = oneOfEach(8);
        int[][] kinds = {{0}, {1}, {2, 0}, {3, 2, 0}, {4}};
        for (int table = 0; table <= 4; table++) {
            for (int kind = 0; kind <= 4; kind++) {
                boolean is = false;
                for (int one : kinds[table]) {
                    is |= one == kind;
                }
                DUE.due("as(" + table + ", " + kind + ")", x.as(table, kind), is ? table : -3);
            }
        }
    }
}
