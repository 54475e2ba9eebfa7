/** Promises 12 to 18: pack, ahead, take, block, alter, more, search. */
public final class BlocksTest {
    private static final Due DUE = new Due("BlocksTest");

    public static void main(String[] args) {
        packOneSign();
        packFindings();
        packKinds();
        packLong();
        mostBytes();
        lanes();
        growing();
        take();
        wrongNumbers();
        wrongDeals();
        wrongTaking();
        cuts();
        blockAndAlter();
        more();
        search();
        DUE.end();
    }

    private static void bytes(String what, BalanceCoder x, int... due) {
        DUE.due(what + ": length", x.block(-1), due.length);
        for (int i = 0; i < due.length; i++) {
            DUE.due(what + ": byte " + i, x.block(i), due[i]);
        }
    }

    /** Puts these bytes in place of what the block is, with or without a SUM behind them. */
    private static void write(BalanceCoder x, boolean withSum, int... bytes) {
        for (int left = x.block(-1); left > 0; left = x.block(-1)) {
            x.more(0, -Math.min(400, left));
        }
        long sum = 0;
        for (int i = 0; i < bytes.length; i++) {
            sum += (long) (i + 1) * bytes[i];
            x.more(bytes[i], 1);
        }
        if (withSum) {
            x.more(sum % 65521, 2);
        }
    }

    private static void wrong(String what, int place, boolean withSum, int... bytes) {
        BalanceCoder x = new BalanceCoder();
        x.put(0, 0x55L, 1);
        write(x, withSum, bytes);
        DUE.due("take of " + what, x.take(0), -100 - place);
        DUE.due("take of " + what + ": the row stays", x.at(0, 0), 0x55);
        DUE.due("take of " + what + ": not taken", x.told(3), 0);
    }

    private static void right(String what, int signs, int... bytes) {
        BalanceCoder x = new BalanceCoder();
        x.put(0, 0x55L, 1);
        write(x, true, bytes);
        DUE.due("take of " + what, x.take(0), signs);
        DUE.due("take of " + what + ": the row", x.at(0, -1), signs);
        DUE.due("take of " + what + ": taken", x.told(3), 1);
    }

    /** By hand: the state 256 is not below 256 times 1, so byte 0 goes and 1 is left; then it is 256 and 97. */
    private static void packOneSign() {
        BalanceCoder x = new BalanceCoder();
        x.put(0, 97, 1);
        x.table(1, 8);
        DUE.due("ahead(0, 0, 1)", x.ahead(0, 0, 1), 13);
        DUE.due("ahead makes nothing", x.block(-1), 0);
        DUE.due("ahead makes nothing", x.told(3), 0);
        DUE.due("pack(0, 0, 1)", x.pack(0, 0, 1), 13);
        bytes("pack", x, 1, 8, 1, 0, 1, 0, 1, 97, 0, 1, 0, 3, 50);
        DUE.due("pack: told(3)", x.told(3), 1);
        DUE.due("pack with 3 lanes", x.pack(0, 0, 3), 19);
        bytes("pack", x, 1, 8, 3, 0, 1, 0, 1, 97, 0, 1, 0, 0, 1, 0, 0, 1, 0, 0x03, 0x55);
    }

    private static void packFindings() {
        BalanceCoder x = new BalanceCoder();
        x.table(0, 8);
        x.table(1, 8);
        for (int lanes : new int[] {0, 5, -1}) {
            DUE.due("pack(1, 0, " + lanes + ")", x.pack(1, 0, lanes), -1);
            DUE.due("ahead(1, 0, " + lanes + ")", x.ahead(1, 0, lanes), -1);
        }
        DUE.due("pack(2, 0, 1)", x.pack(2, 0, 1), -1);
        DUE.due("pack(1, 6, 1)", x.pack(1, 6, 1), -1);
        DUE.due("ahead(-1, 0, 1)", x.ahead(-1, 0, 1), -1);
        DUE.due("ahead(1, -1, 1)", x.ahead(1, -1, 1), -1);
        DUE.due("pack(0, 0, 1) open", x.pack(0, 0, 1), -4);
        DUE.due("ahead(0, 0, 1) open", x.ahead(0, 0, 1), -4);
        x.share(0, 1, 200);
        x.share(0, 2, 56);
        x.put(0, 0x01030201040201L, 7);
        x.pack(1, 0, 1);
        x.mark(2);
        DUE.due("pack(0, 0, 1) missing", x.pack(0, 0, 1), -5);
        DUE.due("pack: the last place", x.told(0), 4);
        DUE.due("pack: the block stays", x.block(0), 1);
        DUE.due("pack: the marks stay", x.told(4), 4);
        x.put(0, 0x09L, 1);
        DUE.due("ahead(0, 0, 1) missing", x.ahead(0, 0, 1), -5);
        DUE.due("ahead: the last place", x.told(0), 7);
        DUE.due("findings", x.told(6), 14);
    }

    private static void packKinds() {
        BalanceCoder x = new BalanceCoder();
        x.table(0, 8);
        x.share(0, 5, 256);
        DUE.due("pack of an empty row", x.pack(0, 0, 1), 17);
        bytes("empty", x, 0, 8, 1, 0, 0, 0, 1, 5, 0, 255, 0, 1, 0, 0, 0, 0x0A, 0x44);
        x.put(0, 0x050505L, 3);
        DUE.due("pack of a sure sign", x.pack(0, 0, 2), 20);
        bytes("sure", x, 0, 8, 2, 0, 3, 0, 1, 5, 0, 255, 0, 1, 0, 0, 1, 0, 0, 0, 0x0A, 0x65);
        x.table(3, 8);
        x.learn(1, 0);
        DUE.due("MIXED tells four deals", x.pack(1, 0, 1), 5 + 5 + 5 + 2 * 770 + 3 + 2 + 2);
        DUE.due("MIXED: deal 1", x.block(10) * 256 + x.block(11), 1);
        DUE.due("MIXED: deal 0 is FLAT", x.block(5) * 256 + x.block(6), 1);
    }

    private static void packLong() {
        BalanceCoder x = new BalanceCoder();
        x.table(1, 12);
        x.table(0, 12);
        x.share(1, 0, 1);
        x.share(1, 1, 4095);
        x.put(0, 0L, 8);
        for (int size = 8; size < 256; size *= 2) {
            x.copy(0, 0, size, 0);
        }
        x.copy(0, 0, 144, 0);
        // By hand: the state goes from 4096 to 65536 with one byte and back with two.
        DUE.due("400 rare signs", x.pack(1, 0, 1), 5 + 8 + 3 + 2 + 600 + 2);
        DUE.due("400 rare signs: how many", x.block(3) * 256 + x.block(4), 400);
        DUE.due("400 rare signs taken", x.take(1), 400);
        DUE.due("400 rare signs: the last", x.at(1, 399), 0);
        DUE.due("400 FLAT signs", x.pack(0, 0, 4), x.ahead(0, 0, 4));
        DUE.due("400 FLAT signs taken", x.take(2), 400);
    }

    /** Signs with 1 share of 4096 take a byte and two bytes in turns, in each lane: no row takes more. */
    private static void mostBytes() {
        BalanceCoder x = new BalanceCoder();
        x.table(0, 12);
        x.share(0, 254, 4095);
        x.share(0, 255, 1);
        for (int i = 0; i < 50; i++) {
            x.put(0, -1L, 8);
        }
        int[] bytes = {600, 600, 201 + 199 + 199, 600};
        for (int lanes = 1; lanes <= 4; lanes++) {
            DUE.due("most bytes, lanes: " + lanes, x.pack(0, 0, lanes), 5 + 8 + 3 * lanes + 2 + bytes[lanes - 1] + 2);
            // Lane 0 has 400, 200, 134 or 100 signs: sign 0, packed last, always takes two bytes.
            DUE.due("most bytes: left behind sign 0", x.step(0, 2), bytes[lanes - 1] - 2);
            DUE.due("most bytes taken", x.take(1), 400);
            DUE.due("most bytes: the last sign", x.at(1, 399), 255);
        }
    }

    /** Each lane packs its own signs: lane i modulo n. */
    private static void lanes() {
        BalanceCoder x = new BalanceCoder();
        x.table(1, 8);
        x.put(0, 0x0A0B0C0DL, 4);
        x.pack(0, 0, 4);
        bytes("four lanes", x, 1, 8, 4, 0, 4, 0, 1, 10, 0, 1, 11, 0, 1, 12, 0, 1, 13, 0, 4, 0, 0, 0, 0, 0x02, 0xF9);
        x.pack(0, 0, 2);
        // Lane 0: sign 12 makes 268 and byte 0; sign 10 then byte 12 and 266. Lane 1: 13, then 11.
        bytes("two lanes", x, 1, 8, 2, 0, 4, 0, 1, 10, 0, 1, 11, 0, 4, 0, 0, 13, 12, 0x02, 0xD5);
        DUE.due("two lanes taken", x.take(1), 4);
        for (int i = 0; i < 4; i++) {
            DUE.due("two lanes: sign " + i, x.at(1, i), 10 + i);
        }
    }

    /** Signs 0 and 1 give one share each to the first two signs 97; the third, 98, gets one from 97. */
    private static void growing() {
        BalanceCoder x = new BalanceCoder();
        x.table(4, 9);
        x.table(4, 8);
        x.put(0, 0x61616200L, 4);
        x.pack(0, 0, 1);
        int[] shares = {2, 3, 2, 1};
        int[] begins = {194, 193, 196, 0};
        for (int i = 0; i < 4; i++) {
            DUE.due("growing: shares of " + i, x.step(i, 3), shares[i]);
            DUE.due("growing: begin of " + i, x.step(i, 4), begins[i]);
        }
        DUE.due("growing taken", x.take(1), 4);
        DUE.due("growing: sign 2", x.at(1, 2), 98);
        x.pack(1, 0, 1);
        for (int i = 0; i < 4; i++) {
            DUE.due("none has two to give: " + i, x.step(i, 3), 1);
        }
        long w = 0x6161616161616161L;
        x.clear(0);
        for (int i = 0; i < 50; i++) {
            x.put(0, w, 8);
        }
        x.pack(0, 0, 1);
        DUE.due("growing until others have but 1", x.step(254, 3), 256);
        DUE.due("growing until others have but 1", x.step(255, 3), 257);
        DUE.due("growing until others have but 1", x.step(256, 3), 257);
        DUE.due("growing until others have but 1", x.step(399, 3), 257);
        DUE.due("growing: begin", x.step(399, 4), 97);
    }

    private static void take() {
        BalanceCoder x = new BalanceCoder();
        DUE.due("take(-1)", x.take(-1), -1);
        DUE.due("take(6)", x.take(6), -1);
        DUE.due("take(0) of nothing", x.take(0), -100);
        right("one FLAT sign", 1, 1, 8, 1, 0, 1, 0, 1, 97, 0, 1, 0);
        right("no sign", 0, 1, 8, 1, 0, 0, 0, 1, 0, 0, 0);
        right("no GROWING sign", 0, 4, 12, 1, 0, 0, 0, 16, 0, 0, 0);
        right("one sure sign", 3, 0, 8, 1, 0, 3, 0, 1, 5, 0, 255, 0, 1, 0, 0, 0);
        right("a sure sign, LEARNT", 3, 2, 12, 1, 0, 3, 0, 1, 255, 15, 255, 0, 16, 0, 0, 0);
        x.put(0, 0x0102030405060708L, 8);
        x.put(1, 0x09L, 1);
        x.table(1, 10);
        x.pack(0, 1, 1);
        DUE.due("take in place of a row", x.take(0), 1);
        DUE.due("take in place of a row", x.at(0, 0), 9);
        DUE.due("take in place of a row", x.at(0, 1), -1);
        x.mark(1);
        DUE.due("take of a block with marks", x.take(0), 1);
        DUE.due("take changes nothing of it", x.told(4), 1);
    }

    private static void wrongNumbers() {
        wrong("kind 5", 0, true, 5, 8, 1, 0, 1, 0, 1, 97, 0, 1, 0);
        wrong("kind 255", 0, true, 255, 8, 1, 0, 1, 0, 1, 97, 0, 1, 0);
        wrong("r 7", 1, true, 1, 7, 1, 0, 1, 0, 1, 97, 0, 1, 0);
        wrong("r 13", 1, true, 1, 13, 1, 0, 1, 0, 1, 97, 0, 1, 0);
        wrong("no lane", 2, true, 1, 8, 0, 0, 1, 0, 1, 97, 0, 1, 0);
        wrong("5 lanes", 2, true, 1, 8, 5, 0, 1, 0, 1, 97, 0, 1, 0);
        wrong("401 signs", 3, true, 1, 8, 1, 1, 0x91, 0, 1, 97, 0, 1, 0);
        wrong("400 signs", 5, true, 1, 8, 1, 1, 0x90, 0, 1, 97, 0, 1, 0);
        wrong("state 255", 5, true, 1, 8, 1, 0, 1, 0, 0, 255, 0, 1, 0);
        wrong("state 65536", 5, true, 1, 8, 1, 0, 1, 1, 0, 0, 0, 1, 0);
        wrong("second state", 8, true, 1, 8, 2, 0, 1, 0, 1, 97, 0, 0, 255, 0, 1, 0);
        wrong("too few bytes", 8, true, 1, 8, 1, 0, 1, 0, 1, 97, 0, 2, 0);
        wrong("too many bytes", 8, true, 1, 8, 1, 0, 1, 0, 1, 97, 0, 0, 0);
        wrong("far too few bytes", 8, true, 1, 8, 1, 0, 1, 0, 1, 97, 255, 255, 0);
        wrong("SUM, high", 11, false, 1, 8, 1, 0, 1, 0, 1, 97, 0, 1, 0, 2, 50);
        wrong("SUM, low", 11, false, 1, 8, 1, 0, 1, 0, 1, 97, 0, 1, 0, 3, 51);
        wrong("something behind", 8, false, 1, 8, 1, 0, 1, 0, 1, 97, 0, 1, 0, 3, 50, 0);
    }

    private static void wrongDeals() {
        wrong("a deal of none", 5, true, 0, 8, 1, 0, 0, 0, 0, 0, 1, 0, 0, 0);
        wrong("a deal of 257", 5, true, 0, 8, 1, 0, 0, 1, 1, 0, 0, 0, 0, 1, 0, 0, 0);
        wrong("a sign twice", 10, true, 2, 8, 1, 0, 0, 0, 2, 7, 0, 9, 7, 0, 245, 0, 1, 0, 0, 0);
        wrong("signs that fall", 10, true, 2, 8, 1, 0, 0, 0, 2, 7, 0, 9, 6, 0, 245, 0, 1, 0, 0, 0);
        wrong("a sign behind 255", 10, true, 2, 8, 1, 0, 0, 0, 2, 255, 0, 9, 0, 0, 245, 0, 1, 0, 0, 0);
        right("two signs", 0, 2, 8, 1, 0, 0, 0, 2, 7, 0, 9, 8, 0, 245, 0, 1, 0, 0, 0);
        wrong("one share too few", 11, true, 2, 8, 1, 0, 0, 0, 2, 7, 0, 9, 8, 0, 244, 0, 1, 0, 0, 0);
        wrong("one share too many", 11, true, 2, 8, 1, 0, 0, 0, 2, 7, 0, 9, 8, 0, 246, 0, 1, 0, 0, 0);
        wrong("257 shares", 8, true, 2, 8, 1, 0, 0, 0, 2, 7, 1, 0, 8, 0, 245, 0, 1, 0, 0, 0);
        wrong("none left for the second", 11, true, 2, 8, 1, 0, 0, 0, 2, 7, 0, 255, 8, 0, 0, 0, 1, 0, 0, 0);
        wrong("65536 shares", 8, true, 2, 8, 1, 0, 0, 0, 1, 7, 255, 255, 0, 1, 0, 0, 0);
        int[] mixed = {3, 8, 1, 0, 0,
            0, 1, 0, 0, 255, 0, 1, 1, 0, 255, 0, 1, 2, 0, 255, 0, 1, 3, 0, 255, 0, 1, 0, 0, 0};
        right("four deals", 0, mixed);
        int[] fourth = mixed.clone();
        fourth[24] = 254;
        wrong("the fourth deal", 23, true, fourth);
        int[] none = mixed.clone();
        none[16] = 0;
        wrong("the third deal of none", 15, true, none);
    }

    private static void wrongTaking() {
        wrong("a byte that is missing", 5, true, 1, 8, 1, 0, 1, 0, 1, 97, 0, 0);
        wrong("a byte that is not used", 5, true, 1, 8, 1, 0, 1, 0, 1, 97, 0, 2, 0, 0);
        wrong("a byte that is left of none", 5, true, 1, 8, 1, 0, 0, 0, 1, 0, 0, 1, 0);
        wrong("a state that is not M", 5, true, 1, 8, 1, 0, 1, 0, 1, 97, 0, 1, 1);
        wrong("a state that is not M at all", 5, true, 1, 8, 1, 0, 0, 0, 1, 1, 0, 0);
        wrong("a second lane that is not M", 5, true, 1, 8, 2, 0, 1, 0, 1, 97, 0, 1, 1, 0, 1, 0);
        wrong("a lane with a FIXED deal", 10, true, 0, 8, 1, 0, 3, 0, 1, 5, 0, 255, 0, 1, 1, 0, 0);
        right("the last state", 0, 1, 8, 1, 0, 0, 0, 1, 0, 0, 0);
        BalanceCoder x = new BalanceCoder();
        x.put(0, 0x68656C6C6FL, 5);
        x.table(4, 11);
        x.pack(0, 0, 2);
        x.alter(2, 3);
        DUE.due("one lane in place of two", x.take(1), -100 - 8);
    }

    /** A number that is cut is told by the length, wherever the cut is. */
    private static void cuts() {
        int[] whole = {2, 8, 1, 0, 3, 0, 2, 7, 0, 9, 8, 0, 245};
        for (int length = 0; length <= whole.length; length++) {
            wrong("a cut at " + length, length, false, java.util.Arrays.copyOf(whole, length));
        }
        int[] flat = {1, 8, 1, 0, 1, 0, 1, 97, 0, 1, 0, 3, 50};
        for (int length = 0; length < flat.length; length++) {
            wrong("a cut of FLAT at " + length, length < 10 ? length : 8, false, java.util.Arrays.copyOf(flat, length));
        }
    }

    private static void blockAndAlter() {
        BalanceCoder x = new BalanceCoder();
        DUE.due("block(0)", x.block(0), -1);
        DUE.due("alter(0, 0)", x.alter(0, 0), -1);
        x.put(0, 97, 1);
        x.table(1, 8);
        x.pack(0, 0, 1);
        x.mark(1);
        DUE.due("block(12)", x.block(12), 50);
        DUE.due("block(13)", x.block(13), -1);
        DUE.due("block(-2)", x.block(-2), -1);
        DUE.due("alter(13, 1)", x.alter(13, 1), -1);
        DUE.due("alter(-1, 1)", x.alter(-1, 1), -1);
        DUE.due("alter(0, 256)", x.alter(0, 256), -1);
        DUE.due("alter(0, -1)", x.alter(0, -1), -1);
        DUE.due("alter: BEYOND changes nothing", x.told(4), 1);
        DUE.due("alter(12, 0)", x.alter(12, 0), 50);
        DUE.due("alter by 0: no steps", x.told(3), 0);
        DUE.due("alter by 0: no marks", x.told(4), 0);
        DUE.due("alter by 0: no marks", x.skip(0), -6);
        DUE.due("alter by 0: still right", x.take(1), 1);
        DUE.due("taken: no marks", x.told(4), 0);
        DUE.due("alter(7, 255)", x.alter(7, 255), 158);
        DUE.due("alter: the byte", x.block(7), 158);
        DUE.due("alter: the SUM is wrong", x.take(1), -111);
        DUE.due("alter(7, 255) again", x.alter(7, 255), 97);
        DUE.due("alter: right again", x.take(1), 1);
    }

    private static void more() {
        BalanceCoder x = new BalanceCoder();
        DUE.due("more(.., 0)", x.more(1, 0), -1);
        DUE.due("more(.., 9)", x.more(1, 9), -1);
        DUE.due("more(.., -401)", x.more(1, -401), -1);
        DUE.due("more(.., MIN)", x.more(1, Integer.MIN_VALUE), -1);
        DUE.due("more(.., MAX)", x.more(1, Integer.MAX_VALUE), -1);
        DUE.due("more(.., -1) of nothing", x.more(1, -1), -1);
        DUE.due("more(0x0102030405060708, 3)", x.more(0x0102030405060708L, 3), 3);
        bytes("more", x, 6, 7, 8);
        DUE.due("more(-1, -4)", x.more(-1, -4), -1);
        DUE.due("more(-1, -2)", x.more(-1, -2), 1);
        bytes("more", x, 6);
        DUE.due("more(.., -1)", x.more(0, -1), 0);
        x.put(0, 97, 1);
        x.table(1, 8);
        x.pack(0, 0, 1);
        x.mark(1);
        DUE.due("more: BEYOND", x.more(0, -14), -1);
        DUE.due("more: BEYOND changes nothing", x.told(4), 1);
        DUE.due("more: one comes", x.more(50, 1), 14);
        DUE.due("more: no steps", x.told(3), 0);
        DUE.due("more: no marks", x.told(4), 0);
        DUE.due("more: one goes", x.more(0, -1), 13);
        DUE.due("more: not taken yet", x.step(0, 0), -6);
        DUE.due("more: right", x.take(0), 1);
        DUE.due("more: BEYOND when made", x.more(0, 0), -1);
        DUE.due("more: still made", x.told(3), 1);
        moreUntilFull();
    }

    private static void moreUntilFull() {
        BalanceCoder x = new BalanceCoder();
        x.table(3, 12);
        x.put(0, 0x0404L, 2);
        x.learn(0, 0);
        int length = x.pack(0, 0, 4);
        DUE.due("a MIXED block with three FLAT deals", length, 5 + 5 + 3 * 770 + 12 + 2 + 2);
        while (length <= 4392) {
            length = x.more(0, 8);
        }
        DUE.due("more: up to the last word", length, 4400);
        DUE.due("more: FULL", x.more(0, 1), -2);
        DUE.due("more: FULL", x.block(-1), 4400);
        DUE.due("more: -400", x.more(0, -400), 4000);
        DUE.due("more: the place is that of the number", x.take(1), -100 - (5 + 5 + 3 * 770 + 12));
    }

    private static void search() {
        BalanceCoder x = new BalanceCoder();
        DUE.due("search(-1)", x.search(-1), -1);
        DUE.due("search(6)", x.search(6), -1);
        DUE.due("search(0) of an empty row", x.search(0), -7);
        DUE.due("search makes nothing then", x.told(3), 0);
        x.put(0, 0x61L, 1);
        DUE.due("search of one sign", x.search(0), 1081);
        DUE.due("search: length", x.block(-1), 13);
        DUE.due("search makes no table", x.told(2), 0);
        x.mark(1);
        x.put(0, 0x6161616161616161L, 8);
        DUE.due("search of one sign 9 times", x.search(0), 2081);
        DUE.due("search: length", x.block(-1), 17);
        DUE.due("search: no marks", x.told(4), 0);
        DUE.due("search: steps", x.step(8, 0), 0x61);
        DUE.due("search: taken", x.take(1), 9);
        searchAll();
        searchLanes();
    }

    /** Rows that were sought so that more lanes than one pay: signs meet states that suit them. */
    private static void searchLanes() {
        String two = ""
            + "020221001110120022210012222121111002122111111002202020201222112022102100202222002121121211222111"
            + "020112220111010120212010221220101012121121101001002021120121212012102220221100022210221112201020"
            + "222101212122120101100122012210102010220202001120222201022020210212010111221200111022210221111021"
            + "121011100001001220210211122012101211121222121101212112221101222012112022112222012112112110121022"
            + "1210112210210111";
        String three = ""
            + "001202011002221201100122112010222100121022002221201220022011200112101220122111201200112122121102"
            + "210222211120021200121102120111000212102221220111202102222220211011122210201210211210201121100102"
            + "102221121100211222022121111211102111221201221210121011221202101122022102010010100111022221201200"
            + "121122122211101122112211210111110212022202220210102110022121101212022011122001211022021220101200"
            + "0210122202110110";
        String four = ""
            + "355324453223455434433333433335533333533432233333453243543332144154435325111355555555312335535544"
            + "221153454245112134445232223232343324123234445242243321114555135541114155155101215554254211115454"
            + "525211124444222221221422414430034401433122250011554213320000452423032220240442522111040054151131"
            + "000055001120002044000015201200000244233000002420004420110000131512110000444500040000000044451112"
            + "0000400400000220";
        BalanceCoder x = new BalanceCoder();
        for (int i = 0; i < 400; i += 8) {
            x.put(0, word(two.substring(i, i + 8)), 8);
            x.put(1, word(three.substring(i, i + 8)), 8);
            x.put(3, word(four.substring(i, i + 8)), 8);
        }
        DUE.due("search: two lanes", x.search(0), 2082);
        DUE.due("search: two lanes, length", x.block(-1), 100);
        DUE.due("search: two lanes, taken", x.take(2), 400);
        DUE.due("search: three lanes", x.search(1), 2083);
        DUE.due("search: three lanes, length", x.block(-1), 102);
        DUE.due("search: three lanes, taken", x.take(2), 400);
        DUE.due("search: four lanes", x.search(3), 2084);
        DUE.due("search: four lanes, length", x.block(-1), 161);
        DUE.due("search: four lanes, taken", x.take(2), 400);
    }

    private static long word(String digits) {
        long w = 0;
        for (int i = 0; i < digits.length(); i++) {
            w = w << 8 | digits.charAt(i) - '0';
        }
        return w;
    }

    /** The answer is the first with the fewest bytes of what ahead() tells of all ways. */
    private static void searchAll() {
        for (int style = 0; style < 12; style++) {
            BalanceCoder x = new BalanceCoder();
            java.util.Random random = new java.util.Random(style);
            for (int i = 0; i < 1 + 4 * style; i++) {
                long w = 0;
                for (int j = 0; j < 8; j++) {
                    w = w << 8 | random.nextInt(1 + random.nextInt(1 + 20 * style));
                }
                x.put(0, w, 1 + random.nextInt(8));
            }
            int best = 0;
            int fewest = Integer.MAX_VALUE;
            x.keep();
            for (int kind = 1; kind <= 4; kind++) {
                for (int r = 8; r <= 12; r++) {
                    x.back();
                    x.table(kind, r);
                    x.learn(0, 0);
                    for (int lanes = 1; lanes <= 4; lanes++) {
                        int size = x.ahead(0, 0, lanes);
                        if (size < fewest) {
                            fewest = size;
                            best = 1000 * kind + 10 * r + lanes;
                        }
                    }
                }
            }
            DUE.due("search " + style, x.search(0), best);
            DUE.due("search " + style + ": length", x.block(-1), fewest);
            DUE.due("search " + style + ": kind", x.block(0), best / 1000);
            DUE.due("search " + style + ": r", x.block(1), best / 10 % 100);
            DUE.due("search " + style + ": lanes", x.block(2), best % 10);
            DUE.due("search " + style + ": taken", x.take(1), x.at(0, -1));
        }
    }
}
