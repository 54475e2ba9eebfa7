import java.util.Random;

/** Terms 1 to 3 and DEALING, sentence by sentence: findings, rows, tables, deals, packing and taking. */
public final class TermSentencesTest {
    private static final Due DUE = new Due("TermSentencesTest");

    public static void main(String[] args) {
        Part part = Part.terms(DUE, "FINDINGS are", "A BLOCK is a row");
        part.says("FINDINGS are the answers below 0: BEYOND -1, FULL -2, KIND -3, OPEN -4, MISSING -5, NONE -6, NOUGHT"
                + " -7; of take() others, too.", TermSentencesTest::findings);
        part.says("Each act tells its findings in the order in which they are asked;", TermSentencesTest::order);
        part.says("an act that answers a finding changes nothing, but where told.", () -> Refused.changeNothing(DUE));
        part.says("SIGNS are 0 to 255.", TermSentencesTest::signs);
        part.says("ROWS 0 to 5 have up to 400 signs each (none at first).", TermSentencesTest::rows);
        tables(part);
        deals(part);
        packing(part);
        part.end();
        DUE.end();
    }

    private static void tables(Part part) {
        part.says("TABLES 0, 1, .. (at most 10) are of a KIND: 0 FIXED, 1 FLAT, 2 LEARNT, 3 MIXED, 4 GROWING; and have"
                + " M SHARES, M being 2 to the r (r 8 to 12).", TermSentencesTest::kinds);
        part.says("A DEAL gives each sign a number of shares, M in all; a sign's BEGIN is how many the signs below it"
                + " have together.", TermSentencesTest::begins);
        part.says("FLAT: each sign has M / 256.", TermSentencesTest::flat);
        part.says("FIXED has a deal when its told shares are M in all.", TermSentencesTest::fixed);
        part.says("LEARNT has one from learn().", TermSentencesTest::learnt);
        part.says("MIXED has four from learn(); which one counts for a sign of a row is told by the two lowest bits of"
                + " the sign ahead of it (0 for the first one).", TermSentencesTest::mixed);
        part.says("GROWING begins as FLAT; behind each sign of a row, the sign that has the most shares of all others"
                + " (of several the lowest) gives one of its shares to it,", TermSentencesTest::growing);
        part.says("unless that has but 1.", TermSentencesTest::growingEnds);
        part.says("A table is OPEN while it has no deal (FIXED, LEARNT, MIXED).", TermSentencesTest::open);
    }

    private static void deals(Part part) {
        part.says("DEALING M shares by counts (of some signs, one at least, above 0): each sign that has a count gets 1"
                + " share at least, others none,", TermSentencesTest::oneShareAtLeast);
        part.says("so that the COST is least: the sum, over signs with a count, of it times the sum of 1000000 / k"
                + " (cut) for k from its shares to M - 1.", TermSentencesTest::leastCost);
        part.says("(Of several such deals it is the one in which the lowest sign that has not alike has more.)",
                TermSentencesTest::lowestHasMore);
        part.says("When there are no counts, it is as FLAT.", TermSentencesTest::noCounts);
    }

    private static void packing(Part part) {
        part.says("PACKING a row by a table with n LANES (1 to 4): each lane has a STATE, M at first, and there is a"
                + " row of BYTES, empty at first.", TermSentencesTest::packingBegins);
        part.says("Sign by sign from the last one to the first: with x the state of lane i modulo n for sign i, f its"
                + " shares and b its begin (as they are for this sign): while x is 256 f or more, its lowest byte comes"
                + " behind the bytes and x becomes x / 256 (cut); then x becomes M times (x / f, cut), and b, and what"
                + " is left of x by f.", TermSentencesTest::packingEdges);
        part.says("TAKING: sign by sign from the first one on: x the state of its lane, slot what is left of x by M:"
                + " the sign is the one whose begin is not above the slot, while that and its shares are;",
                TermSentencesTest::slots);
        part.says("x becomes f times (x / M, cut), and the slot less b; while x is below M it becomes 256 x and the"
                + " last of the bytes, which is gone then.", TermSentencesTest::takingEdges);
    }

    private static void findings() {
        BalanceCoder x = new BalanceCoder();
        DUE.due("BEYOND", x.clear(6), -1);
        Make.fill(x, 0, 1, 400);
        DUE.due("FULL", x.put(0, 1, 1), -2);
        x.table(1, 8);
        DUE.due("KIND", x.learn(0, 0), -3);
        Make.fixed(x, 8, 2, 255);
        DUE.due("OPEN", x.pack(1, 0, 1), -4);
        x.share(1, 2, 256);
        DUE.due("MISSING", x.pack(1, 0, 1), -5);
        DUE.due("NONE", x.back(), -6);
        DUE.due("NOUGHT", x.search(1), -7);
        DUE.due("WRONG", x.take(1), -100);
    }

    /** Each call has more than one finding to tell. */
    private static void order() {
        BalanceCoder x = new BalanceCoder();
        Make.fill(x, 0, 1, 400);
        Make.fixed(x, 8, 2, 256);
        x.table(1, 8);
        x.table(2, 8);
        DUE.due("put: BEYOND, FULL", x.put(0, 1, 9), -1);
        DUE.due("copy: BEYOND, FULL", x.copy(0, 1, 400, 0), -1);
        DUE.due("share: BEYOND of tables, KIND", x.share(3, 256, 1), -1);
        DUE.due("share: KIND, BEYOND of signs", x.share(1, 256, 1), -3);
        DUE.due("share: BEYOND of f, FULL", x.share(0, 3, 257), -1);
        DUE.due("learn: BEYOND, KIND", x.learn(1, 6), -1);
        DUE.due("learn: KIND, NOUGHT", x.learn(1, 1), -3);
        DUE.due("shares: BEYOND, OPEN", x.shares(2, 1, 0, false), -1);
        DUE.due("cost: BEYOND, OPEN", x.cost(2, 0, 6), -1);
        DUE.due("cost: BEYOND, MISSING", x.cost(0, 1, 0), -1);
        DUE.due("pack: BEYOND, OPEN", x.pack(2, 0, 5), -1);
        DUE.due("pack: BEYOND, MISSING", x.pack(0, 0, 0), -1);
        DUE.due("ahead: BEYOND, OPEN", x.ahead(2, 6, 1), -1);
        DUE.due("take: BEYOND, WRONG", x.take(6), -1);
        DUE.due("step: NONE, BEYOND", x.step(-1, 9), -6);
        DUE.due("mark: NONE, BEYOND", x.mark(0), -6);
        DUE.due("skip: NONE, BEYOND", x.skip(-1), -6);
        x.table(4, 8);
        x.pack(3, 0, 1);
        DUE.due("mark: BEYOND, KIND", x.mark(0), -1);
        for (int number = 4; number < 10; number++) {
            x.table(1, 8);
        }
        DUE.due("table: BEYOND, FULL", x.table(5, 8), -1);
    }

    private static void signs() {
        BalanceCoder x = new BalanceCoder();
        Make.all(x, 0);
        x.table(1, 8);
        x.pack(0, 0, 1);
        x.take(1);
        for (int sign = 0; sign < 256; sign += 15) {
            DUE.due("sign " + sign, x.at(0, sign), sign);
            DUE.due("sign " + sign + " taken", x.at(1, sign), sign);
            DUE.due("sign " + sign + " has shares", x.shares(0, 0, sign, false), 1);
        }
        DUE.due("no sign -1", x.shares(0, 0, -1, false), -1);
        DUE.due("no sign 256", x.shares(0, 0, 256, false), -1);
        x.put(2, -1L, 1);
        DUE.due("the highest sign is 255", x.at(2, 0), 255);
    }

    private static void rows() {
        BalanceCoder x = new BalanceCoder();
        for (int p = 0; p < 6; p++) {
            DUE.due("row " + p + " at first", x.at(p, -1), 0);
            Make.fill(x, p, p, 399);
            DUE.due("row " + p + " with 400", x.put(p, 7, 1), 400);
            DUE.due("row " + p + " with one more", x.put(p, 7, 1), -2);
        }
        for (int p = 0; p < 6; p++) {
            DUE.due("row " + p + " has its own signs", x.at(p, 398), p);
        }
        DUE.due("no row 6", x.at(6, -1), -1);
    }

    private static void kinds() {
        for (int r = 8; r <= 12; r++) {
            BalanceCoder x = new BalanceCoder();
            for (int kind = 0; kind <= 4; kind++) {
                DUE.due("table " + kind, x.table(kind, r), kind);
                DUE.due("its kind", x.as(kind, kind), kind);
            }
            Make.put(x, 0, 3);
            x.learn(2, 0);
            x.learn(3, 0);
            DUE.due("all shares of FIXED", x.share(0, 3, 1 << r), 1 << r);
            DUE.due("not one more", x.share(0, 3, (1 << r) + 1), -1);
            DUE.due("all shares of FLAT", x.shares(1, 0, 255, true) + x.shares(1, 0, 255, false), 1 << r);
            DUE.due("all shares of LEARNT", x.shares(2, 0, 3, false), 1 << r);
            DUE.due("all shares of MIXED", x.shares(3, 0, 3, false), 1 << r);
            DUE.due("all shares of GROWING", x.shares(4, 0, 255, true) + x.shares(4, 0, 255, false), 1 << r);
        }
        BalanceCoder x = new BalanceCoder();
        for (int number = 0; number < 10; number++) {
            x.table(1, 8);
        }
        DUE.due("not more than 10", x.table(1, 8), -2);
    }

    /** Within 512 calls: each sign's shares in one object, its begin in another. */
    private static void begins() {
        for (int kind = 0; kind <= 4; kind++) {
            for (int part = 0; part < (kind == 3 ? 4 : 1); part++) {
                BalanceCoder one = dealt(kind);
                BalanceCoder other = dealt(kind);
                int sum = 0;
                for (int sign = 0; sign < 256; sign++) {
                    DUE.due("kind " + kind + ": begin of " + sign, other.shares(0, part, sign, true), sum);
                    int shares = one.shares(0, part, sign, false);
                    DUE.holds("kind " + kind + ": shares of " + sign, shares >= 0);
                    sum += shares;
                }
                DUE.due("kind " + kind + ": shares in all", sum, 512);
            }
        }
    }

    private static BalanceCoder dealt(int kind) {
        BalanceCoder x = new BalanceCoder();
        x.table(kind, 9);
        x.share(0, 0, 1);
        x.share(0, 255, 2);
        x.share(0, 100, 509);
        Make.put(x, 0, 7, 7, 0, 255, 9, 8, 7, 255);
        x.learn(0, 0);
        return x;
    }

    private static void flat() {
        for (int r = 8; r <= 12; r++) {
            BalanceCoder x = new BalanceCoder();
            x.table(1, r);
            for (int sign = 0; sign < 256; sign++) {
                DUE.due("FLAT, r " + r + ", sign " + sign, x.shares(0, 0, sign, false), 1 << (r - 8));
            }
        }
    }

    private static void fixed() {
        BalanceCoder x = new BalanceCoder();
        x.table(0, 8);
        DUE.due("FIXED, nothing told", x.shares(0, 0, 1, false), -4);
        x.share(0, 1, 128);
        x.share(0, 2, 127);
        DUE.due("FIXED, one too few", x.shares(0, 0, 1, false), -4);
        x.share(0, 3, 1);
        DUE.due("FIXED, all", x.shares(0, 0, 1, false), 128);
        x.share(0, 2, 126);
        DUE.due("FIXED, one too few again", x.shares(0, 0, 1, false), -4);
    }

    private static void learnt() {
        BalanceCoder x = new BalanceCoder();
        x.table(2, 8);
        x.table(2, 8);
        Make.put(x, 0, 1);
        DUE.due("LEARNT, ahead of learn()", x.shares(0, 0, 1, false), -4);
        x.learn(0, 0);
        DUE.due("LEARNT, behind learn()", x.shares(0, 0, 1, false), 256);
        DUE.due("LEARNT, another one", x.shares(1, 0, 1, false), -4);
    }

    /** Each sign is packed by the deal that counts for it: its shares tell which. */
    private static void mixed() {
        BalanceCoder x = new BalanceCoder();
        x.table(3, 8);
        Make.put(x, 0, 20, 20, 21, 20, 20, 22, 20, 20, 20, 23, 23, 23, 20, 22, 22);
        x.learn(0, 0);
        x.pack(0, 0, 1);
        for (int i = 0; i < 15; i++) {
            int part = i == 0 ? 0 : x.at(0, i - 1) & 3;
            DUE.due("MIXED: shares of sign " + i, x.step(i, 3), x.shares(0, part, x.at(0, i), false));
            DUE.due("MIXED: begin of sign " + i, x.step(i, 4), x.shares(0, part, x.at(0, i), true));
        }
        DUE.due("behind 1 there is 20 alone", x.shares(0, 1, 20, false), 256);
        DUE.due("behind 2 there are 20 and 22", x.shares(0, 2, 20, false), 128);
        DUE.due("behind 3 there are 23 and 20", x.shares(0, 3, 23, true), x.shares(0, 3, 20, false));
        x.clear(1);
        Make.put(x, 1, 3, 0, 3, 3);
        x.learn(0, 1);
        DUE.due("3 is behind 0, the first and another time", x.shares(0, 0, 3, false), 256);
        DUE.due("behind 3 there are 0 and 3", x.shares(0, 3, 0, false), 128);
    }

    private static void growing() {
        BalanceCoder x = new BalanceCoder();
        x.table(4, 9);
        Make.put(x, 0, 0, 0, 255, 255, 0, 1);
        x.pack(0, 0, 1);
        // 1 gives to 0; then 2 gives to 0, as 0 itself is not asked; 0 gives to 255, twice; 255 to 0.
        int[] shares = {2, 3, 2, 3, 2, 1};
        int[] begins = {0, 0, 510, 509, 0, 3};
        for (int i = 0; i < 6; i++) {
            DUE.due("GROWING: shares of sign " + i, x.step(i, 3), shares[i]);
            DUE.due("GROWING: begin of sign " + i, x.step(i, 4), begins[i]);
        }
        x.clear(0);
        Make.put(x, 0, 9, 9, 8, 9, 8, 7, 9, 8, 0);
        x.pack(0, 0, 2);
        // 0 and 1 give to 9, 9 to 8, 8 to 9, 9 to 8: both have 3. The lower, 8, gives to 7; then 7 to 9, 9 to 8.
        int[] more = {2, 3, 2, 3, 2, 2, 3, 2, 1};
        for (int i = 0; i < 9; i++) {
            DUE.due("GROWING: shares of sign " + i, x.step(i, 3), more[i]);
        }
        x.take(1);
        DUE.due("GROWING: taken", x.at(1, 5), 7);
    }

    private static void growingEnds() {
        BalanceCoder x = new BalanceCoder();
        x.table(4, 8);
        x.table(4, 9);
        Make.fill(x, 0, 200, 400);
        x.pack(0, 0, 1);
        DUE.due("r 8: none has more than 1", x.step(399, 3), 1);
        x.pack(1, 0, 1);
        for (int i = 0; i < 400; i += 5) {
            DUE.due("r 9: shares of sign " + i, x.step(i, 3), Math.min(257, 2 + i));
        }
        DUE.due("r 9: its begin then", x.step(399, 4), 200);
        x.clear(0);
        Make.fill(x, 0, 200, 300);
        Make.put(x, 0, 3, 3);
        x.pack(1, 0, 1);
        DUE.due("one that has but 1", x.step(300, 3), 1);
        DUE.due("it gets one of the only one that has more", x.step(301, 3), 2);
    }

    private static void open() {
        BalanceCoder x = new BalanceCoder();
        for (int kind = 0; kind <= 4; kind++) {
            x.table(kind, 8);
            boolean open = kind == 0 || kind == 2 || kind == 3;
            DUE.due("shares by kind " + kind, x.shares(kind, 0, 0, true), open ? -4 : 0);
            DUE.due("cost by kind " + kind, x.cost(kind, 0, 0), open ? -4 : 0);
            DUE.due("pack by kind " + kind, x.pack(kind, 0, 1), open ? -4 : 12);
            DUE.due("ahead by kind " + kind, x.ahead(kind, 0, 1), open ? -4 : 12);
        }
    }

    private static void oneShareAtLeast() {
        BalanceCoder x = new BalanceCoder();
        x.table(2, 8);
        Make.all(x, 0);
        Make.fill(x, 0, 77, 144);
        x.learn(0, 0);
        for (int sign = 0; sign < 256; sign++) {
            DUE.due("all signs, 256 shares: sign " + sign, x.shares(0, 0, sign, false), 1);
        }
        x.clear(0);
        Make.fill(x, 0, 77, 399);
        Make.put(x, 0, 200);
        x.learn(0, 0);
        DUE.due("399 to 1: the rare sign", x.shares(0, 0, 200, false), 1);
        DUE.due("399 to 1: the other one", x.shares(0, 0, 77, false), 255);
        DUE.due("a sign without a count", x.shares(0, 0, 201, false), 0);
        DUE.due("a sign without a count", x.shares(0, 0, 0, false), 0);
    }

    /** No share that is moved from one sign to another makes the cost less (it falls ever slower with more shares). */
    private static void leastCost() {
        Random random = new Random(3);
        for (int round = 0; round < 40; round++) {
            BalanceCoder x = new BalanceCoder();
            int r = 8 + round % 5;
            int signs = 1 + random.nextInt(12);
            int[] counts = new int[signs];
            for (int i = 0; i < 40; i++) {
                int sign = Math.min(random.nextInt(signs), random.nextInt(signs));
                Make.fill(x, 0, sign, 8);
                counts[sign] += 8;
            }
            x.table(2, r);
            x.learn(0, 0);
            for (int giver = 0; giver < signs; giver++) {
                int f = x.shares(0, 0, giver, false);
                for (int taker = 0; taker < signs && f > 1; taker++) {
                    int g = x.shares(0, 0, taker, false);
                    long loss = (long) counts[giver] * (1000000 / (f - 1));
                    long gain = g == 0 ? 0 : (long) counts[taker] * (1000000 / g);
                    DUE.holds("r " + r + ": from " + giver + " to " + taker,
                            giver == taker || gain < loss || gain == loss && giver < taker);
                }
            }
        }
    }

    private static void lowestHasMore() {
        BalanceCoder x = new BalanceCoder();
        x.table(2, 8);
        x.table(2, 12);
        Make.put(x, 0, 30, 20, 10);
        x.learn(0, 0);
        DUE.due("256 among three: the lowest", x.shares(0, 0, 10, false), 86);
        DUE.due("256 among three: the next", x.shares(0, 0, 20, false), 85);
        DUE.due("256 among three: the highest", x.shares(0, 0, 30, false), 85);
        x.clear(0);
        Make.put(x, 0, 255, 0);
        x.learn(1, 0);
        // 1000000 / k, cut, is 488 for k from 2046 to 2049.
        DUE.due("4096 among two: the lower", x.shares(1, 0, 0, false), 2050);
        DUE.due("4096 among two: the higher", x.shares(1, 0, 255, false), 2046);
        x.learn(0, 0);
        DUE.due("256 among two: the lower", x.shares(0, 0, 0, false), 128);
    }

    private static void noCounts() {
        for (int r = 8; r <= 12; r++) {
            BalanceCoder x = new BalanceCoder();
            x.table(3, r);
            Make.put(x, 0, 6, 4, 2, 0);
            x.learn(0, 0);
            for (int part = 1; part <= 3; part += 2) {
                for (int sign = 0; sign < 256; sign += 5) {
                    DUE.due("part " + part + ", sign " + sign, x.shares(0, part, sign, false), 1 << (r - 8));
                }
            }
        }
    }

    private static void packingBegins() {
        for (int r = 8; r <= 12; r++) {
            for (int lanes = 1; lanes <= 4; lanes++) {
                BalanceCoder x = new BalanceCoder();
                x.table(1, r);
                x.pack(0, 0, lanes);
                DUE.due("lanes", x.block(2), lanes);
                for (int lane = 0; lane < lanes; lane++) {
                    int state = x.block(5 + 3 * lane) << 16 | x.block(6 + 3 * lane) << 8 | x.block(7 + 3 * lane);
                    DUE.due("r " + r + ": lane " + lane + " of no sign", state, 1 << r);
                }
                DUE.due("no bytes", x.block(5 + 3 * lanes) << 8 | x.block(6 + 3 * lanes), 0);
                Make.put(x, 0, 5);
                x.pack(0, 0, lanes);
                DUE.due("behind taking the only sign", x.step(0, 1), 1 << r);
                DUE.due("behind taking the only sign", x.step(0, 2), 0);
            }
        }
    }

    private static int atLimit;
    private static int belowLimit;
    private static int twoBytes;
    private static int atAll;
    private static int belowAll;
    private static int firstSlot;
    private static int lastSlot;
    private static int slotNought;
    private static int slotHighest;

    /** What the steps tell of each sign, from the last one on, goes by the rule; the states at the end, too. */
    private static void follow(String what, BalanceCoder x, int r, int lanes, int n) {
        int all = 1 << r;
        int[] states = {all, all, all, all};
        int[] bytes = new int[2 * n];
        int used = 0;
        for (int i = n - 1; i >= 0; i--) {
            int state = states[i % lanes];
            int f = x.step(i, 3);
            DUE.due(what + ": state of sign " + i, x.step(i, 1), state);
            DUE.due(what + ": bytes left of sign " + i, x.step(i, 2), used);
            atLimit += state == 256 * f ? 1 : 0;
            belowLimit += state == 256 * f - 1 ? 1 : 0;
            int before = used;
            while (state >= 256 * f) {
                bytes[used] = state % 256;
                used++;
                state /= 256;
            }
            twoBytes += used == before + 2 ? 1 : 0;
            atAll += used == before && state == all ? 1 : 0;
            belowAll += used > before && state == all - 1 ? 1 : 0;
            int slot = x.step(i, 4) + state % f;
            firstSlot += f > 1 && state % f == 0 ? 1 : 0;
            lastSlot += f > 1 && state % f == f - 1 ? 1 : 0;
            slotNought += slot == 0 ? 1 : 0;
            slotHighest += slot == all - 1 ? 1 : 0;
            states[i % lanes] = all * (state / f) + slot;
        }
        int at = x.block(-1) - 2 - used;
        for (int i = 0; i < used; i++) {
            DUE.due(what + ": byte " + i, x.block(at + i), bytes[i]);
        }
        DUE.due(what + ": how many bytes", x.block(at - 2) << 8 | x.block(at - 1), used);
        for (int lane = 0; lane < lanes; lane++) {
            int place = at - 2 - 3 * (lanes - lane);
            int state = x.block(place) << 16 | x.block(place + 1) << 8 | x.block(place + 2);
            DUE.due(what + ": lane " + lane, state, states[lane]);
        }
        DUE.due(what + ": taken", x.take(5), n);
        for (int i = 0; i < n; i++) {
            DUE.due(what + ": sign " + i + " taken", x.at(5, i), x.at(0, i));
        }
    }

    private static void followMany() {
        Random random = new Random(7);
        for (int round = 0; round < 4000; round++) {
            BalanceCoder x = new BalanceCoder();
            int r = 8 + random.nextInt(round % 4 == 0 ? 5 : 1);
            int all = 1 << r;
            int first = 1 + random.nextInt(round % 2 == 0 ? 4 : all / 2);
            int next = 1 + random.nextInt(all - first - 1);
            Make.fixed(x, r, 0, first, 1, next, 255, all - first - next);
            int n = 1 + random.nextInt(12);
            for (int i = 0; i < n; i++) {
                int sign = random.nextInt(3);
                x.put(0, sign == 2 ? 255 : sign, 1);
            }
            int lanes = 1 + random.nextInt(4);
            x.pack(0, 0, lanes);
            follow("round " + round, x, r, lanes, n);
        }
    }

    private static void packingEdges() {
        followMany();
        DUE.holds("a state was 256 f", atLimit > 0);
        DUE.holds("a state was 256 f less 1", belowLimit > 0);
        DUE.holds("two bytes came of one sign", twoBytes > 0);
        BalanceCoder x = new BalanceCoder();
        Make.fixed(x, 12, 0, 1, 255, 4095);
        Make.fill(x, 0, 0, 40);
        for (int lanes = 1; lanes <= 4; lanes++) {
            x.pack(0, 0, lanes);
            follow("rare signs, lanes " + lanes, x, 12, lanes, 40);
        }
    }

    private static void slots() {
        DUE.holds("a slot was a sign's first", firstSlot > 0);
        DUE.holds("a slot was a sign's last", lastSlot > 0);
        DUE.holds("a slot was 0", slotNought > 0);
        DUE.holds("a slot was M less 1", slotHighest > 0);
        // By hand: FLAT with 4 shares each, slot 1023 is of sign 255; x is 7 then, and 1792 with byte 0.
        BalanceCoder x = new BalanceCoder();
        Make.blockWithSum(x, 1, 10, 1, 0, 1, 0, 7, 255, 0, 1, 0);
        DUE.due("slot 1023 leaves 1792, not M", x.take(0), -105);
        // Slot 1020 is its first: x is 4 then, and 1024 with byte 0.
        Make.blockWithSum(x, 1, 10, 1, 0, 1, 0, 7, 252, 0, 1, 0);
        DUE.due("slot 1020", x.take(0), 1);
        DUE.due("slot 1020", x.at(0, 0), 255);
        // Slot 1016 is the first of sign 254.
        Make.blockWithSum(x, 1, 10, 1, 0, 1, 0, 7, 248, 0, 1, 0);
        DUE.due("slot 1016", x.take(0), 1);
        DUE.due("slot 1016", x.at(0, 0), 254);
        // Slot 0 is that of sign 0; signs without shares begin there, too.
        Make.blockWithSum(x, 1, 10, 1, 0, 1, 0, 4, 0, 0, 1, 0);
        DUE.due("slot 0", x.take(0), 1);
        DUE.due("slot 0", x.at(0, 0), 0);
        Make.blockWithSum(x, 0, 8, 1, 0, 1, 0, 2, 7, 0, 0, 200, 0, 254, 0, 1, 0, 0, 1, 0);
        DUE.due("slot 0, sign 7 is the first with shares", x.take(0), 1);
        DUE.due("slot 0, sign 7 is the first with shares", x.at(0, 0), 7);
    }

    private static void takingEdges() {
        DUE.holds("x was just M", atAll > 0);
        DUE.holds("x was just below M", belowAll > 0);
        // By hand: 256 and slot 97 of FLAT: x is 1 then, and 256 with byte 0.
        BalanceCoder x = new BalanceCoder();
        Make.blockWithSum(x, 1, 8, 1, 0, 1, 0, 1, 97, 0, 1, 0);
        DUE.due("a byte comes below M", x.take(0), 1);
        DUE.due("a byte comes below M", x.step(0, 2), 0);
        // A sign with all shares leaves the state as it is: no byte comes at M.
        Make.blockWithSum(x, 0, 8, 1, 0, 1, 0, 1, 9, 0, 255, 0, 1, 0, 0, 0);
        DUE.due("no byte comes at M", x.take(0), 1);
        // One share of 4096: x is 1, 256 with one byte, 65536 with two.
        Make.blockWithSum(x, 0, 12, 1, 0, 1, 0, 2, 8, 0, 0, 9, 15, 254, 0, 16, 0, 0, 2, 0, 0);
        DUE.due("two bytes, but the state is 65536 then", x.take(0), -100 - 13);
        Make.blockWithSum(x, 0, 12, 1, 0, 1, 0, 2, 8, 0, 0, 9, 15, 254, 1, 0, 0, 0, 1, 0);
        DUE.due("one byte comes to 16", x.take(0), 1);
        DUE.due("one byte comes to 16", x.at(0, 0), 8);
    }
}
