/** Promises 6 to 11: table, share, learn, shares, cost, as. */
public final class TablesTest {
    private static final Due DUE = new Due("TablesTest");

    public static void main(String[] args) {
        table();
        share();
        learn();
        learnMixed();
        shares();
        cost();
        as();
        DUE.end();
    }

    private static void table() {
        BalanceCoder x = new BalanceCoder();
        DUE.due("table(-1, 8)", x.table(-1, 8), -1);
        DUE.due("table(5, 8)", x.table(5, 8), -1);
        DUE.due("table(0, 7)", x.table(0, 7), -1);
        DUE.due("table(0, 13)", x.table(0, 13), -1);
        DUE.due("table: no number is spent", x.told(2), 0);
        for (int i = 0; i < 10; i++) {
            DUE.due("table " + i, x.table(i % 5, 8 + i % 5), i);
        }
        DUE.due("table: the eleventh", x.table(0, 8), -2);
        DUE.due("table: wrong and full", x.table(5, 8), -1);
        DUE.due("table: told(2)", x.told(2), 10);
    }

    private static void share() {
        BalanceCoder x = new BalanceCoder();
        x.table(0, 9);
        DUE.due("share(1, 0, 0)", x.share(1, 0, 0), -1);
        DUE.due("share(-1, 0, 0)", x.share(-1, 0, 0), -1);
        DUE.due("share(0, 10, 500)", x.share(0, 10, 500), 500);
        DUE.due("share(0, 255, 12)", x.share(0, 255, 12), 512);
        DUE.due("share: deal", x.shares(0, 0, 255, true), 500);
        DUE.due("share(0, 10, 501)", x.share(0, 10, 501), -2);
        DUE.due("share: FULL changes nothing", x.shares(0, 0, 10, false), 500);
        DUE.due("share(0, 10, 499) in place of 500", x.share(0, 10, 499), 511);
        DUE.due("share: open again", x.shares(0, 0, 10, false), -4);
        DUE.due("share(0, 0, 1)", x.share(0, 0, 1), 512);
        DUE.due("share: begin of 10", x.shares(0, 0, 10, true), 1);
        DUE.due("share: begin of 0", x.shares(0, 0, 0, true), 0);
        DUE.due("share(0, -1, 0)", x.share(0, -1, 0), -1);
        DUE.due("share(0, 256, 0)", x.share(0, 256, 0), -1);
        DUE.due("share(0, 0, -1)", x.share(0, 0, -1), -1);
        DUE.due("share(0, 0, 513)", x.share(0, 0, 513), -1);
        DUE.due("share(0, 0, 512)", x.share(0, 0, 512), -2);
        DUE.due("share(0, 0, MAX)", x.share(0, 0, Integer.MAX_VALUE), -1);
        x.share(0, 10, 0);
        x.share(0, 255, 0);
        DUE.due("share: all to one", x.share(0, 0, 512), 512);
        for (int kind = 1; kind <= 4; kind++) {
            x.table(kind, 8);
            DUE.due("share of kind " + kind, x.share(kind, 999, 999), -3);
        }
    }

    private static void learn() {
        BalanceCoder x = new BalanceCoder();
        x.table(0, 8);
        x.table(1, 8);
        x.table(2, 8);
        x.table(3, 8);
        x.table(4, 8);
        DUE.due("learn(5, 0)", x.learn(5, 0), -1);
        DUE.due("learn(0, 6)", x.learn(0, 6), -1);
        DUE.due("learn(0, 0)", x.learn(0, 0), -3);
        DUE.due("learn(1, 0)", x.learn(1, 0), -3);
        DUE.due("learn(4, 0)", x.learn(4, 0), -3);
        DUE.due("learn(2, 0)", x.learn(2, 0), -7);
        DUE.due("learn(3, 0)", x.learn(3, 0), -7);
        DUE.due("learn: still open", x.shares(2, 0, 0, false), -4);
        x.put(0, 0x0707L, 2);
        DUE.due("learn(2, 0) one sign", x.learn(2, 0), 0);
        DUE.due("learn: it has all", x.shares(2, 0, 7, false), 256);
        DUE.due("learn: others have none", x.shares(2, 0, 8, false), 0);
        x.put(0, 0x0809L, 2);
        DUE.due("learn(2, 0) anew", x.learn(2, 0), 0);
        DUE.due("learn: NOUGHT keeps the deal", x.learn(2, 1), -7);
        DUE.due("learn: share 7", x.shares(2, 0, 7, false), 128);
        DUE.due("learn: share 8", x.shares(2, 0, 8, false), 64);
        DUE.due("learn: share 9", x.shares(2, 0, 9, false), 64);
        for (int i = 0; i < 32; i++) {
            long w = 0;
            for (int j = 0; j < 8; j++) {
                w = w << 8 | 8 * i + j;
            }
            x.put(2, w, 8);
        }
        x.copy(2, 5, 100, 2);
        DUE.due("learn(2, 2) of all signs", x.learn(2, 2), 0);
        for (int sign = 0; sign < 256; sign++) {
            DUE.due("learn: each has 1", x.shares(2, 0, sign, false), 1);
        }
    }

    private static void learnMixed() {
        BalanceCoder x = new BalanceCoder();
        x.table(3, 9);
        x.put(0, 0x0401050804FF02L, 7);
        DUE.due("learn(0, 0)", x.learn(0, 0), 0);
        // Behind 0 (ahead of the first), 4, 8, 4: signs 4, 1, 4, 255.
        DUE.due("part 0 of 1", x.shares(0, 0, 1, false), 128);
        DUE.due("part 0 of 4", x.shares(0, 0, 4, false), 256);
        DUE.due("part 0 of 255", x.shares(0, 0, 255, false), 128);
        // Behind 1 and 5: signs 5 and 8.
        DUE.due("part 1 of 5", x.shares(0, 1, 5, false), 256);
        DUE.due("part 1 of 8", x.shares(0, 1, 8, true), 256);
        // Behind none: as FLAT.
        DUE.due("part 2 of 77", x.shares(0, 2, 77, false), 2);
        DUE.due("part 2 of 77", x.shares(0, 2, 77, true), 154);
        // Behind 255: sign 2.
        DUE.due("part 3 of 2", x.shares(0, 3, 2, false), 512);
    }

    private static void shares() {
        BalanceCoder x = new BalanceCoder();
        for (int kind = 0; kind <= 4; kind++) {
            x.table(kind, 12);
        }
        DUE.due("shares of FIXED", x.shares(0, 0, 0, false), -4);
        DUE.due("shares of FLAT", x.shares(1, 0, 200, false), 16);
        DUE.due("begin of FLAT", x.shares(1, 0, 200, true), 3200);
        DUE.due("shares of LEARNT", x.shares(2, 0, 0, true), -4);
        DUE.due("shares of MIXED", x.shares(3, 3, 0, false), -4);
        DUE.due("shares of GROWING", x.shares(4, 0, 255, false), 16);
        DUE.due("begin of GROWING", x.shares(4, 0, 255, true), 4080);
        x.put(0, 0x0505050505L, 5);
        x.pack(4, 0, 1);
        DUE.due("shares of GROWING as it begins", x.shares(4, 0, 5, false), 16);
        DUE.due("shares(5, ..)", x.shares(5, 0, 0, false), -1);
        DUE.due("shares(-1, ..)", x.shares(-1, 0, 0, false), -1);
        DUE.due("part 1 of FLAT", x.shares(1, 1, 0, false), -1);
        DUE.due("part -1 of FLAT", x.shares(1, -1, 0, false), -1);
        DUE.due("part 4 of MIXED", x.shares(3, 4, 0, false), -1);
        DUE.due("part 1 of LEARNT", x.shares(2, 1, 0, false), -1);
        DUE.due("sign 256", x.shares(1, 0, 256, false), -1);
        DUE.due("sign -1", x.shares(1, 0, -1, true), -1);
        DUE.due("BEYOND ahead of OPEN", x.shares(0, 0, 256, false), -1);
    }

    private static long sumFrom(int from, int all) {
        long sum = 0;
        for (int k = from; k < all; k++) {
            sum += 1000000 / k;
        }
        return sum;
    }

    private static void cost() {
        BalanceCoder x = new BalanceCoder();
        x.table(0, 8);
        x.table(1, 12);
        x.table(3, 8);
        DUE.due("cost(3, 0, 0)", x.cost(3, 0, 0), -1);
        DUE.due("cost(0, 1, 0)", x.cost(0, 1, 0), -1);
        DUE.due("cost(0, 0, 6)", x.cost(0, 0, 6), -1);
        DUE.due("cost(0, 0, 0) open", x.cost(0, 0, 0), -4);
        DUE.due("cost(2, 3, 0) open", x.cost(2, 3, 0), -4);
        DUE.due("cost(2, 4, 0)", x.cost(2, 4, 0), -1);
        DUE.due("cost(1, 0, 0) of an empty row", x.cost(1, 0, 0), 0);
        x.put(0, 0x0102020301L, 5);
        DUE.due("cost(1, 0, 0)", x.cost(1, 0, 0), 5 * sumFrom(16, 4096));
        x.share(0, 1, 1);
        x.share(0, 2, 255);
        DUE.due("cost(0, 0, 0) missing", x.cost(0, 0, 0), -5);
        DUE.due("cost: told(0) is the first", x.told(0), 3);
        x.put(1, 0x0102020201L, 5);
        DUE.due("cost(0, 0, 1)", x.cost(0, 0, 1), 2 * sumFrom(1, 256) + 3 * sumFrom(255, 256));
        DUE.due("cost: told(0) stays", x.told(0), 3);
        x.clear(1);
        x.put(1, 0x0503L, 2);
        DUE.due("cost(0, 0, 1) missing twice", x.cost(0, 0, 1), -5);
        DUE.due("cost: told(0) is the first of both", x.told(0), 0);
        x.share(0, 1, 0);
        DUE.due("cost: 255 of 256", x.cost(0, 0, 0), -4);
        x.share(0, 2, 256);
        x.clear(1);
        x.put(1, 0x0202L, 2);
        DUE.due("cost of a sure sign", x.cost(0, 0, 1), 0);
        x.learn(2, 1);
        DUE.due("cost of a part by all counts", x.cost(2, 1, 1), 2 * sumFrom(1, 256));
        costOfLongRow();
    }

    private static void costOfLongRow() {
        BalanceCoder x = new BalanceCoder();
        x.table(0, 12);
        x.share(0, 9, 1);
        x.share(0, 8, 4095);
        x.put(0, 0x0909090909090909L, 8);
        for (int size = 8; size < 256; size *= 2) {
            x.copy(0, 0, size, 0);
        }
        x.copy(0, 0, 144, 0);
        DUE.due("cost of 400 rare signs", x.cost(0, 0, 0), 400 * sumFrom(1, 4096));
        DUE.holds("cost of 400 rare signs is more than an int holds", x.cost(0, 0, 0) > Integer.MAX_VALUE);
    }

    private static void as() {
        BalanceCoder x = new BalanceCoder();
        String fits = "10000" + "01000" + "10100" + "10110" + "00001";
        for (int kind = 0; kind <= 4; kind++) {
            x.table(kind, 8);
        }
        for (int table = 0; table <= 4; table++) {
            for (int kind = 0; kind <= 4; kind++) {
                boolean is = fits.charAt(5 * table + kind) == '1';
                DUE.due("as(" + table + ", " + kind + ")", x.as(table, kind), is ? table : -3);
            }
        }
        DUE.due("as(5, 0)", x.as(5, 0), -1);
        DUE.due("as(-1, 0)", x.as(-1, 0), -1);
        DUE.due("as(0, 5)", x.as(0, 5), -1);
        DUE.due("as(0, -1)", x.as(0, -1), -1);
    }
}
