/** Promises 12 to 18, sentence by sentence: pack, ahead, take, block, alter, more, search. */
public final class BlockSentencesTest {
    private static final Due DUE = new Due("BlockSentencesTest");

    public static void main(String[] args) {
        packAndAhead();
        takeAndBlock();
        alterAndMore();
        Part part = Part.promise(DUE, 18);
        part.says("Of all blocks that pack a row by a table of a kind 1 to 4, r 8 to 12, 1 to 4 lanes (LEARNT and"
                + " MIXED learn it), the first with the fewest bytes (by kind, then r, then lanes) is THE BLOCK:"
                + " 1000 times the kind, 10 times r, and the lanes.", BlockSentencesTest::search);
        part.says("BEYOND: no such row.", BlockSentencesTest::searchBeyond);
        part.says("NOUGHT: it is empty.", BlockSentencesTest::searchNought);
        part.end();
        DUE.end();
    }

    private static void packAndAhead() {
        Part part = Part.promise(DUE, 12);
        part.says("A row is packed by a table, and that is THE BLOCK: how many bytes it has.",
                BlockSentencesTest::pack);
        part.says("BEYOND: no such table, or row, or lanes is not 1 to 4.", BlockSentencesTest::packBeyond);
        part.says("OPEN.", BlockSentencesTest::packOpen);
        part.says("MISSING: a sign of the row has no shares for it: told(0) is the last place of such a one.",
                BlockSentencesTest::packMissing);
        part.end();
        part = Part.promise(DUE, 13);
        part.says("How many bytes it would have.", BlockSentencesTest::ahead);
        part.says("Findings as of pack().", BlockSentencesTest::aheadFindings);
        part.end();
    }

    private static void takeAndBlock() {
        Part part = Part.promise(DUE, 14);
        part.says("THE BLOCK is taken, if it is RIGHT, and its signs are row p then: how many.",
                BlockSentencesTest::take);
        part.says("BEYOND: no such row.", BlockSentencesTest::takeBeyond);
        part.says("-100 less WRONG.", BlockSentencesTest::takeWrong);
        part.end();
        part = Part.promise(DUE, 15);
        part.says("Byte i of THE BLOCK; i = -1: how many it has.", BlockSentencesTest::block);
        part.says("BEYOND.", BlockSentencesTest::blockBeyond);
        part.end();
    }

    private static void alterAndMore() {
        Part part = Part.promise(DUE, 16);
        part.says("Byte i of THE BLOCK is xored by a mask: what it is then.", BlockSentencesTest::alter);
        part.says("(It has no marks or steps then.)", BlockSentencesTest::alterNoSteps);
        part.says("BEYOND: no such byte, or mask is not 0 to 255.", BlockSentencesTest::alterBeyond);
        part.end();
        part = Part.promise(DUE, 17);
        part.says("The n lowest bytes of w, the highest first, come behind THE BLOCK (n 1 to 8),",
                BlockSentencesTest::moreBytes);
        part.says("or -n of its last ones are gone (n -400 to -1; w is not looked at): how many it has.",
                BlockSentencesTest::fewerBytes);
        part.says("(It has no marks or steps then.)", BlockSentencesTest::moreNoSteps);
        part.says("BEYOND: another n, or it has not so many.", BlockSentencesTest::moreBeyond);
        part.says("FULL.", BlockSentencesTest::moreFull);
        part.end();
    }

    /** Tables 0 to 4 are of kinds 0 to 4 and have deals with shares for signs 0, 1 and 255; row 0 has those. */
    private static BalanceCoder dealt(int r) {
        BalanceCoder x = new BalanceCoder();
        Make.fixed(x, r, 0, 1, 1, 2, 255, (1 << r) - 3);
        for (int kind = 1; kind <= 4; kind++) {
            x.table(kind, r);
        }
        Make.put(x, 0, 0, 0, 1, 1, 255, 255, 0, 255, 1, 0);
        x.learn(2, 0);
        x.learn(3, 0);
        return x;
    }

    /** FLAT, 256 shares, one lane, sign 97, and a mark: 13 bytes. */
    private static BalanceCoder marked() {
        BalanceCoder x = new BalanceCoder();
        Make.put(x, 0, 97);
        x.table(1, 8);
        x.pack(0, 0, 1);
        x.mark(1);
        return x;
    }

    private static void hasNoSteps(String what, BalanceCoder x) {
        DUE.due(what + ": not made or taken", x.told(3), 0);
        DUE.due(what + ": no marks", x.told(4), 0);
        DUE.due(what + ": no step", x.step(0, 0), -6);
        DUE.due(what + ": no skip", x.skip(0), -6);
        DUE.due(what + ": no mark", x.mark(1), -6);
        DUE.due(what + ": no check", x.check(), -6);
    }

    private static void hasSteps(String what, BalanceCoder x) {
        DUE.due(what + ": made or taken", x.told(3), 1);
        DUE.due(what + ": marks", x.told(4), 1);
        DUE.due(what + ": step", x.step(0, 0), 97);
        DUE.due(what + ": skip", x.skip(0), 97);
    }

    private static void pack() {
        for (int r = 8; r <= 12; r += 4) {
            BalanceCoder x = dealt(r);
            int[] deals = {11, 0, 11, 2 + 9 + 2 + 9 + 770 + 2 + 9, 0};
            for (int table = 0; table <= 4; table++) {
                for (int lanes = 1; lanes <= 4; lanes++) {
                    String what = "table " + table + ", lanes " + lanes;
                    int length = x.pack(table, 1, lanes);
                    DUE.due(what + ": an empty row", length, 5 + deals[table] + 3 * lanes + 4);
                    DUE.due(what + ": no bytes", x.block(length - 4) * 256 + x.block(length - 3), 0);
                    length = x.pack(table, 0, lanes);
                    DUE.due(what + ": block(-1)", x.block(-1), length);
                    DUE.due(what + ": kind", x.block(0), table);
                    DUE.due(what + ": r", x.block(1), r);
                    DUE.due(what + ": n", x.block(2), lanes);
                    DUE.due(what + ": signs", x.block(3) * 256 + x.block(4), 10);
                    DUE.due(what + ": made", x.told(3), 1);
                }
            }
        }
        BalanceCoder x = dealt(8);
        Make.fill(x, 2, 1, 400);
        for (int table = 0; table <= 4; table++) {
            x.pack(table, 2, 4);
            DUE.due("a full row, table " + table, x.block(3) * 256 + x.block(4), 400);
            DUE.due("a full row, table " + table + ": the last step", x.step(399, 0), 1);
        }
        DUE.due("in place of a longer one", x.pack(1, 1, 1), 12);
        DUE.due("in place of a longer one", x.block(12), -1);
        DUE.due("lanes without a sign", x.pack(1, 1, 4), 21);
        for (int lane = 0; lane < 4; lane++) {
            DUE.due("lanes without a sign have M", x.block(6 + 3 * lane), 1);
        }
    }

    private static void packBeyond() {
        BalanceCoder x = dealt(8);
        for (int table : Make.beside(0, 4)) {
            DUE.due("pack(" + table + ", 0, 1)", x.pack(table, 0, 1), -1);
        }
        for (int p : Make.beside(0, 5)) {
            DUE.due("pack(1, " + p + ", 1)", x.pack(1, p, 1), -1);
        }
        for (int lanes : Make.beside(1, 4)) {
            DUE.due("pack(1, 0, " + lanes + ")", x.pack(1, 0, lanes), -1);
        }
        x.table(2, 8);
        DUE.due("pack: no such row, ahead of OPEN", x.pack(5, 6, 1), -1);
        DUE.due("pack: no such lanes, ahead of OPEN", x.pack(5, 0, 0), -1);
        Make.put(x, 1, 7);
        DUE.due("pack: no such lanes, ahead of MISSING", x.pack(0, 1, 5), -1);
        DUE.due("pack: nothing is packed", x.block(-1), 0);
        DUE.due("pack: nothing is made", x.told(3), 0);
    }

    private static void packOpen() {
        BalanceCoder x = marked();
        int fixed = Make.fixed(x, 8, 97, 255);
        int learnt = x.table(2, 8);
        int mixed = x.table(3, 8);
        for (int table : new int[] {fixed, learnt, mixed}) {
            DUE.due("pack by open table " + table, x.pack(table, 0, 1), -4);
            DUE.due("pack of an empty row by open table " + table, x.pack(table, 1, 1), -4);
        }
        Make.put(x, 2, 96);
        DUE.due("pack: OPEN ahead of MISSING", x.pack(fixed, 2, 1), -4);
        DUE.due("pack: nothing is missing", x.told(0), 0);
        hasSteps("pack by an open table", x);
        x.share(fixed, 97, 256);
        DUE.due("pack by a table that is open no more", x.pack(fixed, 0, 1), 17);
        x.share(fixed, 97, 0);
        DUE.due("pack by a table that is open again", x.pack(fixed, 0, 1), -4);
        DUE.due("pack: the block stays", x.block(-1), 17);
    }

    private static void packMissing() {
        BalanceCoder x = marked();
        int fixed = Make.fixed(x, 8, 1, 100, 3, 156);
        Make.put(x, 1, 2);
        DUE.due("pack of one sign, missing", x.pack(fixed, 1, 1), -5);
        DUE.due("pack of one sign, missing: where", x.told(0), 0);
        Make.put(x, 1, 1, 0, 4, 3);
        DUE.due("pack, three missing", x.pack(fixed, 1, 4), -5);
        DUE.due("pack, three missing: the last place", x.told(0), 3);
        Make.fill(x, 2, 3, 399);
        Make.put(x, 2, 255);
        DUE.due("pack of a full row, the last missing", x.pack(fixed, 2, 2), -5);
        DUE.due("pack of a full row, the last missing: where", x.told(0), 399);
        hasSteps("pack, missing", x);
        int mixed = x.table(3, 9);
        Make.put(x, 3, 4, 5, 4);
        x.learn(mixed, 3);
        DUE.due("MIXED packs what it learnt", x.pack(mixed, 3, 1) > 0 ? 1 : 0, 1);
        Make.put(x, 4, 4, 5, 5, 4, 4, 5);
        DUE.due("MIXED, 5 behind 5", x.pack(mixed, 4, 1), -5);
        DUE.due("MIXED, 5 behind 5: where", x.told(0), 2);
        x.clear(4);
        Make.put(x, 4, 4, 5, 6);
        DUE.due("MIXED, 6 behind 5", x.pack(mixed, 4, 1), -5);
        x.clear(4);
        Make.put(x, 4, 5, 4, 4, 4, 5);
        DUE.due("MIXED, first a sign that is behind 0", x.pack(mixed, 4, 1) > 0 ? 1 : 0, 1);
        x.clear(4);
        Make.put(x, 4, 6, 4, 5);
        DUE.due("MIXED, the first missing", x.pack(mixed, 4, 1), -5);
        DUE.due("MIXED, the first missing: where", x.told(0), 0);
    }

    private static void ahead() {
        for (int r = 8; r <= 12; r++) {
            BalanceCoder x = dealt(r);
            Make.fill(x, 2, 0, 400);
            for (int table = 0; table <= 4; table++) {
                for (int lanes = 1; lanes <= 4; lanes++) {
                    for (int p = 0; p <= 2; p++) {
                        int length = x.ahead(table, p, lanes);
                        DUE.due("ahead(" + table + ", " + p + ", " + lanes + ")", length, x.pack(table, p, lanes));
                    }
                }
            }
        }
        BalanceCoder x = marked();
        x.table(1, 12);
        Make.fill(x, 1, 9, 400);
        DUE.holds("ahead of a long row", x.ahead(1, 1, 4) > 400);
        DUE.due("ahead: the block stays", x.block(-1), 13);
        hasSteps("ahead", x);
    }

    private static void aheadFindings() {
        BalanceCoder x = dealt(8);
        x.table(2, 8);
        Make.put(x, 1, 9, 0, 9, 0);
        int[] tables = {-1, 0, 5, 6, Integer.MIN_VALUE, Integer.MAX_VALUE};
        int[] rows = {-1, 0, 1, 5, 6, Integer.MAX_VALUE};
        int[] lanes = {0, 1, 4, 5, Integer.MIN_VALUE};
        for (int table : tables) {
            for (int p : rows) {
                for (int n : lanes) {
                    String what = "(" + table + ", " + p + ", " + n + ")";
                    DUE.due("ahead and pack" + what, x.ahead(table, p, n), x.pack(table, p, n));
                }
            }
        }
        x = dealt(8);
        x.table(2, 8);
        Make.put(x, 1, 9, 0, 9, 0);
        DUE.due("ahead by no table", x.ahead(6, 0, 1), -1);
        DUE.due("ahead of no row", x.ahead(0, 6, 1), -1);
        DUE.due("ahead with no lanes", x.ahead(0, 0, 0), -1);
        DUE.due("ahead with 5 lanes", x.ahead(5, 0, 5), -1);
        DUE.due("ahead by an open table", x.ahead(5, 1, 1), -4);
        DUE.due("ahead, missing", x.ahead(0, 1, 1), -5);
        DUE.due("ahead, missing: the last place", x.told(0), 2);
        DUE.due("ahead: findings are counted", x.told(6), 6);
    }

    private static void take() {
        BalanceCoder x = dealt(8);
        Make.fill(x, 2, 255, 400);
        for (int p = 0; p < 6; p++) {
            x.pack(4, 2, 3);
            DUE.due("take of 400 signs to row " + p, x.take(p), 400);
            DUE.due("take to row " + p + ": the last sign", x.at(p, 399), 255);
        }
        x.clear(1);
        x.pack(1, 1, 1);
        DUE.due("take of no sign to a full row", x.take(0), 0);
        DUE.due("take of no sign: the row is empty", x.at(0, -1), 0);
        DUE.due("take: other rows stay", x.at(2, -1), 400);
        Make.put(x, 0, 0, 1, 255);
        x.pack(0, 0, 4);
        DUE.due("take of the row that was packed", x.take(0), 3);
        DUE.due("take of the row that was packed: its last", x.at(0, 2), 255);
        DUE.due("take again, to another", x.take(5), 3);
        DUE.due("take: told(3)", x.told(3), 1);
    }

    private static void takeBeyond() {
        BalanceCoder x = marked();
        for (int p : Make.beside(0, 5)) {
            DUE.due("take(" + p + ")", x.take(p), -1);
        }
        x.alter(0, 7);
        DUE.due("take to no row, ahead of WRONG", x.take(6), -1);
        DUE.due("take to a row", x.take(5), -100);
        DUE.due("take: the row stays empty", x.at(5, -1), 0);
    }

    private static void takeWrong() {
        BalanceCoder x = new BalanceCoder();
        Make.put(x, 3, 1, 2);
        DUE.due("take of no byte", x.take(3), -100);
        Make.block(x, 9);
        DUE.due("take of a wrong first byte", x.take(3), -100);
        x = marked();
        Make.put(x, 3, 1, 2);
        x.alter(12, 1);
        DUE.due("take of a wrong SUM", x.take(3), -111);
        DUE.due("take of a wrong block: the row stays", x.at(3, -1), 2);
        DUE.due("take of a wrong block: the block stays", x.block(12), 51);
        hasNoSteps("take of a wrong block", x);
        x = dealt(12);
        int length = x.pack(3, 0, 4);
        x.alter(length - 1, 128);
        DUE.due("take of a wrong SUM far behind", x.take(0), -100 - (length - 2));
    }

    private static void block() {
        BalanceCoder x = new BalanceCoder();
        DUE.due("block(-1) of none", x.block(-1), 0);
        x.more(0xFF00FEL, 3);
        DUE.due("block(-1) of three", x.block(-1), 3);
        DUE.due("block(0)", x.block(0), 255);
        DUE.due("block(1)", x.block(1), 0);
        DUE.due("block(2)", x.block(2), 254);
    }

    private static void blockBeyond() {
        BalanceCoder x = new BalanceCoder();
        DUE.due("block(0) of none", x.block(0), -1);
        x.more(0xFF00FEL, 3);
        for (int i : Make.beside(-1, 2)) {
            DUE.due("block(" + i + ")", x.block(i), -1);
        }
        x.more(0, -1);
        DUE.due("block(2) of one that is gone", x.block(2), -1);
    }

    private static void alter() {
        BalanceCoder x = new BalanceCoder();
        x.more(0xF000L, 2);
        DUE.due("alter of the first", x.alter(0, 0xFF), 0x0F);
        DUE.due("alter of the first: it", x.block(0), 0x0F);
        DUE.due("alter of the last", x.alter(1, 0x81), 0x81);
        DUE.due("alter by 0", x.alter(1, 0), 0x81);
        DUE.due("alter by itself", x.alter(1, 0x81), 0);
        DUE.due("alter: the other stays", x.block(0), 0x0F);
        DUE.due("alter: no byte comes", x.block(-1), 2);
    }

    private static void alterNoSteps() {
        for (int mask : new int[] {0, 1, 255}) {
            BalanceCoder x = marked();
            x.alter(12, mask);
            hasNoSteps("alter by " + mask, x);
        }
        BalanceCoder x = marked();
        x.alter(0, 0);
        DUE.due("taken behind alter", x.take(1), 1);
        DUE.due("taken behind alter: steps", x.step(0, 0), 97);
        DUE.due("taken behind alter: no marks", x.told(4), 0);
        DUE.due("taken behind alter: no marks", x.skip(0), -6);
        DUE.due("taken behind alter: mark", x.mark(1), 1);
        x.alter(0, 0);
        hasNoSteps("alter of what was taken", x);
    }

    private static void alterBeyond() {
        BalanceCoder x = new BalanceCoder();
        DUE.due("alter with no byte", x.alter(0, 0), -1);
        x = marked();
        for (int i : Make.beside(0, 12)) {
            DUE.due("alter(" + i + ", 1)", x.alter(i, 1), -1);
        }
        for (int mask : Make.beside(0, 255)) {
            DUE.due("alter(0, " + mask + ")", x.alter(0, mask), -1);
        }
        DUE.due("alter: nothing is changed", x.block(0), 1);
        hasSteps("alter, refused", x);
    }

    private static void moreBytes() {
        for (int n = 1; n <= 8; n++) {
            BalanceCoder x = new BalanceCoder();
            DUE.due("more of " + n, x.more(0xF1F2F3F4F5F6F7F8L, n), n);
            for (int i = 0; i < n; i++) {
                DUE.due("more of " + n + ": byte " + i, x.block(i), 0xF8 - (n - 1 - i));
            }
            DUE.due("more of 1", x.more(-256L, 1), n + 1);
            DUE.due("more of 1: the byte", x.block(n), 0);
            DUE.due("more of 1: what was", x.block(n - 1), 0xF8);
        }
    }

    private static void fewerBytes() {
        BalanceCoder x = new BalanceCoder();
        for (int i = 0; i < 52; i++) {
            x.more(-1, 8);
        }
        DUE.due("the last one is gone", x.more(Long.MIN_VALUE, -1), 415);
        DUE.due("400 are gone", x.more(Long.MAX_VALUE, -400), 15);
        DUE.due("those ahead stay", x.block(14), 255);
        DUE.due("all are gone", x.more(-1, -15), 0);
        DUE.due("all are gone", x.block(-1), 0);
        DUE.due("one comes then", x.more(7, 1), 1);
        DUE.due("one comes then", x.block(0), 7);
    }

    private static void moreNoSteps() {
        BalanceCoder x = marked();
        x.more(0, 1);
        hasNoSteps("one more", x);
        x.more(0, -1);
        hasNoSteps("and one fewer", x);
        DUE.due("taken then", x.take(1), 1);
        DUE.due("taken then: no marks", x.told(4), 0);
        DUE.due("taken then: steps", x.told(3), 1);
        x = marked();
        x.more(0, -13);
        hasNoSteps("none left", x);
        DUE.due("none left: take", x.take(0), -100);
    }

    private static void moreBeyond() {
        BalanceCoder x = new BalanceCoder();
        for (int n : new int[] {-1, -400}) {
            DUE.due("more(0, " + n + ") of none", x.more(0, n), -1);
        }
        x = marked();
        for (int n : Make.beside(-13, 8)) {
            DUE.due("more(0, " + n + ")", x.more(0, n), -1);
        }
        DUE.due("more(0, 0)", x.more(0, 0), -1);
        DUE.due("more: nothing is changed", x.block(-1), 13);
        hasSteps("more, refused", x);
        for (int i = 0; i < 50; i++) {
            x.more(0, 8);
        }
        DUE.due("more(0, -401) of 413", x.more(0, -401), -1);
        DUE.due("more(0, -400) of 413", x.more(0, -400), 13);
    }

    /** A block of so many bytes, all 1, within 512 calls: the longest packed one first, then words. */
    private static BalanceCoder long4400(int length) {
        BalanceCoder x = new BalanceCoder();
        x.table(3, 12);
        Make.put(x, 0, 4);
        x.learn(0, 0);
        int has = x.pack(0, 0, 4);
        for (int left = length - has; left > 0; left -= 8) {
            x.more(0x0101010101010101L, Math.min(8, left));
        }
        return x;
    }

    private static void moreFull() {
        for (int n = 1; n <= 8; n++) {
            BalanceCoder x = long4400(4401 - n);
            DUE.due("more of " + n + " to 4401", x.more(-1, n), -2);
            DUE.due("more of " + n + " to 4401: nothing comes", x.block(-1), 4401 - n);
            x.more(0, -1);
            DUE.due("more of " + n + " to 4400", x.more(-1, n), 4400);
            DUE.due("more of " + n + " to 4400: the last", x.block(4399), 255);
        }
        BalanceCoder x = long4400(4400);
        DUE.due("more of one when full", x.more(0, 1), -2);
        DUE.due("more of 9 when full", x.more(0, 9), -1);
        DUE.due("more of none when full", x.more(0, 0), -1);
        DUE.due("fewer when full", x.more(0, -1), 4399);
        DUE.due("alter of the last but one", x.alter(4398, 3), 2);
    }

    /** The first with the fewest bytes of all that ahead() tells, each by a table of its own. */
    private static int bestAhead(BalanceCoder x, int p) {
        int best = 0;
        int fewest = Integer.MAX_VALUE;
        x.keep();
        for (int kind = 1; kind <= 4; kind++) {
            for (int r = 8; r <= 12; r++) {
                x.back();
                int table = x.table(kind, r);
                x.learn(table, p);
                for (int lanes = 1; lanes <= 4; lanes++) {
                    int size = x.ahead(table, p, lanes);
                    if (size < fewest) {
                        fewest = size;
                        best = 1000 * kind + 10 * r + lanes;
                    }
                }
            }
        }
        x.back();
        return best;
    }

    private static void searched(String what, BalanceCoder x, int kind) {
        int best = bestAhead(x, 0);
        DUE.due("search, " + what, x.search(0), best);
        DUE.due("search, " + what + ": kind", best / 1000, kind);
        DUE.due("search, " + what + ": the block's kind", x.block(0), kind);
        DUE.due("search, " + what + ": its r", x.block(1), best / 10 % 100);
        DUE.due("search, " + what + ": its lanes", x.block(2), best % 10);
        DUE.due("search, " + what + ": made", x.told(3), 1);
        DUE.due("search, " + what + ": tables", x.told(2), 0);
        int table = x.table(kind, best / 10 % 100);
        x.learn(table, 0);
        int length = x.block(-1);
        int last = x.block(length - 1) + 256 * x.block(length - 2);
        DUE.due("search, " + what + ": as pack()", x.pack(table, 0, best % 10), length);
        DUE.due("search, " + what + ": as pack(), the SUM", x.block(length - 1) + 256 * x.block(length - 2), last);
        DUE.due("search, " + what + ": taken", x.take(1), x.at(0, -1));
    }

    private static void search() {
        BalanceCoder x = new BalanceCoder();
        Make.put(x, 0, 0);
        searched("one sign", x, 1);
        x = new BalanceCoder();
        Make.all(x, 0);
        searched("all signs once", x, 1);
        x = new BalanceCoder();
        Make.fill(x, 0, 255, 400);
        searched("one sign 400 times", x, 2);
        x = new BalanceCoder();
        for (int i = 0; i < 50; i++) {
            x.put(0, 0x0001020300010203L, 8);
        }
        searched("signs that tell the next one", x, 3);
        x = new BalanceCoder();
        for (int sign = 0; sign < 50; sign++) {
            Make.fill(x, 0, 5 * sign, 8);
        }
        searched("many signs, each in one run", x, 4);
        searchOfEachR();
    }

    /** Short rows for which each r in turn is the first with the fewest bytes. */
    private static void searchOfEachR() {
        String[] rows = {"2010001032301030", "1200010021002020", "010000000000000200000200",
            "000000002000002000000003", "000000010221202000022001", "0101100100011110", "0200020000300100",
            "0300021200023301", "2100223102311122", "0101012000020301"};
        int[] due = {1081, 2081, 2091, 2101, 2111, 2121, 4091, 4101, 4111, 4121};
        for (int i = 0; i < rows.length; i++) {
            BalanceCoder x = new BalanceCoder();
            for (char digit : rows[i].toCharArray()) {
                x.put(0, digit - '0', 1);
            }
            DUE.due("search of " + rows[i], x.search(0), due[i]);
            searched(rows[i], x, due[i] / 1000);
        }
    }

    private static void searchBeyond() {
        BalanceCoder x = marked();
        for (int p : Make.beside(0, 5)) {
            DUE.due("search(" + p + ")", x.search(p), -1);
        }
        hasSteps("search of no row", x);
    }

    private static void searchNought() {
        BalanceCoder x = marked();
        for (int p = 1; p < 6; p++) {
            DUE.due("search of empty row " + p, x.search(p), -7);
        }
        hasSteps("search of an empty row", x);
        x.clear(0);
        DUE.due("search of a cleared row", x.search(0), -7);
        Make.put(x, 0, 1);
        DUE.due("search of one sign", x.search(0), 1081);
        DUE.due("search: no marks", x.told(4), 0);
    }
}
