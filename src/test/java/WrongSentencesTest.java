import java.util.Random;

/** Terms 4 and 5 and THE BLOCK, sentence by sentence: what a block is, where it is wrong, and its marks. */
public final class WrongSentencesTest {
    private static final Due DUE = new Due("WrongSentencesTest");

    public static void main(String[] args) {
        Part part = Part.terms(DUE, "A BLOCK is a row", Part.END_OF_TERMS);
        made(part);
        right(part);
        wrong(part);
        part.says("MARKS of THE BLOCK, when it was made by pack(), search() or taken by take(), each k signs: the"
                + " states of all lanes, and how many bytes are left, ahead of taking sign 0, k, 2k and so on (of those"
                + " that there are).", WrongSentencesTest::marks);
        part.end();
        DUE.end();
    }

    private static void made(Part part) {
        part.says("A BLOCK is a row of bytes: the kind; r; n; how many signs (two bytes, the high one first, like all"
                + " numbers here);", WrongSentencesTest::head);
        part.says("of FIXED and LEARNT its deal, of MIXED its four: how many signs have shares (two bytes), then for"
                + " each, from the lowest on, it and its shares less 1 (two bytes);", WrongSentencesTest::toldDeals);
        part.says("the states of the lanes at the end of packing (three bytes each, lane 0 first);",
                WrongSentencesTest::toldStates);
        part.says("how many bytes (two); these;", WrongSentencesTest::toldBytes);
        part.says("and the SUM (two): the sum over all bytes ahead of the place (from 1) times the byte, modulo 65521.",
                WrongSentencesTest::sum);
    }

    private static void right(Part part) {
        part.says("THE BLOCK has at most 4400 bytes (none at first).", WrongSentencesTest::atMost);
        part.says("It is RIGHT when each number is as told, all is there and nothing behind it,",
                WrongSentencesTest::allIsThere);
        part.says("and TAKING all its signs by its deals and states uses just its bytes, a byte being there whenever"
                + " one is needed, and leaves M in each lane.", WrongSentencesTest::justItsBytes);
    }

    private static void wrong(Part part) {
        part.says("WRONG otherwise: the place of the first of these that is not so:", WrongSentencesTest::first);
        part.says("kind (0 to 4);", WrongSentencesTest::kind);
        part.says("r;", WrongSentencesTest::r);
        part.says("n;", WrongSentencesTest::n);
        part.says("the number of signs (0 to 400);", WrongSentencesTest::signs);
        part.says("of each deal the number of signs with shares (1 to 256),", WrongSentencesTest::dealt);
        part.says("then of each a sign that is not above the one ahead,", WrongSentencesTest::notAbove);
        part.says("its shares (1 to M; or with those ahead more than M; of the last one: M not reached);",
                WrongSentencesTest::shares);
        part.says("a state that is not from M to 256 M less 1;", WrongSentencesTest::states);
        part.says("the number of bytes, when there are not just so many and two more behind it;",
                WrongSentencesTest::numberOfBytes);
        part.says("the SUM;", WrongSentencesTest::wrongSum);
        part.says("then the first state, when taking is not as told.", WrongSentencesTest::taking);
        part.says("(The place of a number is that of its first byte; a number that is cut: the length of THE BLOCK.)",
                WrongSentencesTest::cut);
    }

    /** What take() answers of these bytes and their SUM. */
    private static int taken(int... bytes) {
        BalanceCoder x = new BalanceCoder();
        Make.blockWithSum(x, bytes);
        return x.take(0);
    }

    private static void isWrong(String what, int place, int... bytes) {
        DUE.due(what, taken(bytes), -100 - place);
    }

    private static void isRight(String what, int signs, int... bytes) {
        DUE.due(what, taken(bytes), signs);
    }

    private static void has(String what, BalanceCoder x, int place, int... due) {
        for (int i = 0; i < due.length; i++) {
            DUE.due(what + ": byte " + (place + i), x.block(place + i), due[i]);
        }
    }

    /** A block of no sign: kind, r, n, deals, and M in each lane. */
    private static int[] empty(int kind, int r, int n, int... deals) {
        int[] all = Make.join(Make.bytes(kind, r, n, 0, 0), deals);
        for (int lane = 0; lane < n; lane++) {
            all = Make.join(all, Make.number(1 << r, 3));
        }
        return Make.join(all, Make.bytes(0, 0));
    }

    private static int[] oneSign(int sign, int shares) {
        return Make.join(Make.bytes(0, 1, sign), Make.number(shares - 1, 2));
    }

    private static void head() {
        for (int r = 8; r <= 12; r++) {
            BalanceCoder x = new BalanceCoder();
            Make.fixed(x, r, 4, 1 << r);
            for (int kind = 1; kind <= 4; kind++) {
                x.table(kind, r);
            }
            Make.fill(x, 0, 4, 400);
            Make.fill(x, 1, 4, 256);
            Make.put(x, 2, 4);
            x.learn(2, 0);
            x.learn(3, 0);
            for (int kind = 0; kind <= 4; kind++) {
                for (int lanes = 1; lanes <= 4; lanes++) {
                    x.pack(kind, 0, lanes);
                    has("400 signs", x, 0, kind, r, lanes, 1, 144);
                }
                x.pack(kind, 1, 1);
                has("256 signs", x, 0, kind, r, 1, 1, 0);
                x.pack(kind, 2, 1);
                has("one sign", x, 0, kind, r, 1, 0, 1);
                x.pack(kind, 3, 1);
                has("no sign", x, 0, kind, r, 1, 0, 0);
            }
        }
    }

    private static void toldDeals() {
        for (int r = 8; r <= 12; r++) {
            int all = 1 << r;
            BalanceCoder x = new BalanceCoder();
            Make.fixed(x, r, 9, all);
            x.pack(0, 0, 1);
            has("one sign with all shares", x, 5, 0, 1, 9, all - 1 >> 8, 255);
            x.share(0, 9, all - 1);
            x.share(0, 0, 1);
            x.pack(0, 0, 1);
            has("two signs, from the lowest on", x, 5, 0, 2, 0, 0, 0, 9, all - 2 >> 8, 254);
            Make.all(x, 1);
            x.table(2, r);
            x.learn(1, 1);
            x.pack(1, 0, 1);
            has("all signs have shares", x, 5, 1, 0);
            for (int sign = 0; sign < 256; sign += 51) {
                has("all signs have shares", x, 7 + 3 * sign, sign, 0, all / 256 - 1);
            }
            Make.put(x, 2, 3);
            x.table(3, r);
            x.learn(2, 2);
            x.pack(2, 0, 1);
            has("the first of four", x, 5, 0, 1, 3, all - 1 >> 8, 255);
            has("the second of four", x, 10, 1, 0, 0, 0, all / 256 - 1);
            has("the third of four", x, 780, 1, 0, 0, 0, all / 256 - 1);
            has("the fourth of four", x, 1550, 1, 0, 0, 0, all / 256 - 1);
            x.table(1, r);
            x.pack(3, 0, 1);
            has("FLAT tells no deal", x, 5, Make.number(all, 3));
            x.table(4, r);
            x.pack(4, 0, 1);
            has("GROWING tells no deal", x, 5, Make.number(all, 3));
        }
    }

    private static void toldStates() {
        BalanceCoder x = new BalanceCoder();
        x.table(1, 8);
        Make.put(x, 0, 10, 11, 12, 13);
        x.pack(0, 0, 4);
        has("four lanes", x, 5, 0, 1, 10, 0, 1, 11, 0, 1, 12, 0, 1, 13);
        x.pack(0, 0, 3);
        has("three lanes", x, 5, 0, 1, 10, 0, 1, 11, 0, 1, 12);
        Make.fixed(x, 12, 0, 1, 1, 4095);
        Make.put(x, 1, 0);
        x.pack(1, 1, 2);
        // 4096 is 256 or more: byte 0 goes, 16 is left and becomes 65536.
        has("a state of three bytes", x, 5 + 8, 1, 0, 0, 0, 16, 0);
    }

    private static void toldBytes() {
        BalanceCoder x = new BalanceCoder();
        x.table(1, 8);
        Make.put(x, 0, 9);
        x.pack(0, 0, 1);
        has("one byte", x, 8, 0, 1, 0);
        Make.all(x, 1);
        x.pack(0, 1, 1);
        has("256 bytes", x, 8, 1, 0, 0, 255, 254, 253);
        has("256 bytes: the last", x, 10 + 254, 2, 1);
        Make.fill(x, 1, 77, 144);
        x.pack(0, 1, 1);
        has("400 bytes", x, 8, 1, 144, 0, 77, 77);
        DUE.due("400 bytes and the SUM", x.block(-1), 10 + 400 + 2);
    }

    /** A FIXED block of no sign with 40 signs in its deal, drawn so that its sum is told by 0. */
    private static int[] sumOfNought() {
        Random random = new Random(11);
        for (int round = 0; round < 1000000; round++) {
            int[] deal = Make.number(40, 2);
            int rest = 4096;
            for (int i = 0; i < 40; i++) {
                int shares = i == 39 ? rest : 1 + random.nextInt(100);
                rest -= shares;
                deal = Make.join(deal, Make.bytes(6 * i + random.nextInt(6)), Make.number(shares - 1, 2));
            }
            int[] bytes = empty(0, 12, 1, deal);
            if (rest == 0 && Make.sum(bytes) == 0) {
                return bytes;
            }
        }
        return new int[0];
    }

    private static void sum() {
        BalanceCoder x = new BalanceCoder();
        x.table(1, 8);
        x.pack(0, 0, 1);
        has("1 + 2 * 8 + 3 + 7", x, 10, 0, 27);
        Make.fill(x, 0, 255, 400);
        for (int kind = 1; kind <= 4; kind++) {
            int table = x.table(kind, 12);
            x.learn(table, 0);
            int length = x.pack(table, 0, 4);
            BalanceCoder again = new BalanceCoder();
            again.table(kind, 12);
            Make.fill(again, 0, 255, 400);
            again.learn(0, 0);
            again.pack(0, 0, 4);
            int[] bytes = new int[length - 2];
            for (int i = 0; i < bytes.length; i++) {
                bytes[i] = i % 2 == 0 ? x.block(i) : again.block(i);
            }
            has("the SUM of kind " + kind, x, length - 2, Make.number(Make.sum(bytes), 2));
        }
        int[] nought = sumOfNought();
        DUE.holds("a block whose sum is 0 modulo 65521", nought.length > 0);
        x = new BalanceCoder();
        Make.block(x, Make.join(nought, Make.bytes(0, 0)));
        DUE.due("a SUM of 0", x.take(0), 0);
        x = new BalanceCoder();
        Make.block(x, Make.join(nought, Make.number(65521, 2)));
        DUE.due("65521 in place of 0", x.take(0), -100 - nought.length);
    }

    private static void atMost() {
        BalanceCoder x = new BalanceCoder();
        DUE.due("none at first", x.block(-1), 0);
        x.table(3, 12);
        Make.put(x, 0, 4);
        x.learn(0, 0);
        int length = x.pack(0, 0, 4);
        for (int left = 4400 - length; left > 0; left -= 8) {
            length = x.more(0, Math.min(8, left));
        }
        DUE.due("4400 bytes", length, 4400);
        DUE.due("one more", x.more(0, 1), -2);
        DUE.due("the place of the number of bytes", x.take(0), -100 - (5 + 5 + 3 * 770 + 12));
    }

    /** Tables 0 to 4 of kinds 0 to 4, all with a deal for the signs of row 0. */
    private static BalanceCoder packedBy(int kind, int lanes) {
        BalanceCoder x = new BalanceCoder();
        x.table(kind, 9);
        x.share(0, 3, 100);
        x.share(0, 4, 411);
        x.share(0, 255, 1);
        Make.put(x, 0, 3, 4, 4, 255, 4, 3);
        x.learn(0, 0);
        x.pack(0, 0, lanes);
        return x;
    }

    private static int placeOfSize(BalanceCoder x, int lanes) {
        int left = x.step(0, 2);
        for (int size = left; size <= left + 2; size++) {
            int place = x.block(-1) - 2 - size - 2;
            if ((x.block(place) << 8 | x.block(place + 1)) == size && place >= 5 + 3 * lanes) {
                return place;
            }
        }
        return -1;
    }

    private static void allIsThere() {
        for (int kind = 0; kind <= 4; kind++) {
            for (int lanes = 1; lanes <= 4; lanes += 3) {
                BalanceCoder x = packedBy(kind, lanes);
                int length = x.block(-1);
                int size = placeOfSize(x, lanes);
                DUE.due("kind " + kind + ": all is there", x.take(1), 6);
                x.more(0, 1);
                DUE.due("kind " + kind + ": one behind it", x.take(1), -100 - size);
                x.more(0, -1);
                DUE.due("kind " + kind + ": none behind it", x.take(1), 6);
                for (int cut = length - 1; cut >= Math.max(0, length - 60); cut--) {
                    x.more(0, -1);
                    int place = cut < size + 2 ? cut : size;
                    DUE.due("kind " + kind + ": cut at " + cut, x.take(1), -100 - place);
                }
            }
        }
    }

    private static void justItsBytes() {
        isRight("one byte for one sign", 1, 1, 8, 1, 0, 1, 0, 1, 97, 0, 1, 0);
        isWrong("no byte for one sign", 5, 1, 8, 1, 0, 1, 0, 1, 97, 0, 0);
        isWrong("two bytes for one sign, M below", 5, 1, 8, 1, 0, 1, 0, 1, 97, 0, 2, 0, 0);
        isWrong("one byte for no sign", 5, 1, 8, 1, 0, 0, 0, 1, 0, 0, 1, 0);
        isRight("no byte for a sign with all shares", 400, 0, 8, 1, 1, 144, 0, 1, 9, 0, 255, 0, 1, 0, 0, 0);
        isWrong("a byte for a sign with all shares", 10, 0, 8, 1, 1, 144, 0, 1, 9, 0, 255, 0, 1, 0, 0, 1, 0);
        isWrong("257 is left", 5, 1, 8, 1, 0, 1, 0, 1, 97, 0, 1, 1);
        isWrong("257 stays in a lane of no sign", 5, 1, 8, 2, 0, 1, 0, 1, 97, 0, 1, 1, 0, 1, 0);
        isWrong("257 stays in the last lane", 5, 1, 8, 4, 0, 0, 0, 1, 0, 0, 1, 0, 0, 1, 0, 0, 1, 1, 0, 0);
        isWrong("of two bytes the second is missing", 13,
                0, 12, 1, 0, 1, 0, 2, 8, 0, 0, 9, 15, 254, 0, 16, 0, 0, 1, 0);
        isWrong("of two signs the second has no byte", 5, 1, 8, 1, 0, 2, 0, 1, 97, 0, 1, 98);
        isRight("two signs, two bytes", 2, 1, 8, 1, 0, 2, 0, 1, 97, 0, 2, 0, 98);
        isWrong("two bytes in the other order", 5, 1, 8, 1, 0, 2, 0, 1, 97, 0, 2, 98, 0);
    }

    /** A block that is wrong all along: each number is mended in turn. */
    private static void first() {
        int[] bytes = {9, 7, 0, 1, 145, 0, 0, 8, 1, 0, 9, 0, 5, 0, 0, 255, 0, 9, 0};
        int[] places = {0, 1, 2, 3, 4, 6, 8, 12, 14, 17};
        int[] mended = {0, 8, 1, 0, 1, 2, 0, 254, 1, 1};
        int[] due = {0, 1, 2, 3, 5, 5, 8, 11, 13, 16};
        for (int i = 0; i < places.length; i++) {
            isWrong("wrong from " + due[i] + " on", due[i], bytes);
            bytes[places[i]] = mended[i];
        }
        // Only the SUM and what taking leaves are wrong now.
        BalanceCoder x = new BalanceCoder();
        Make.block(x, Make.join(bytes, Make.number(Make.sum(bytes) ^ 1, 2)));
        DUE.due("the SUM ahead of taking", x.take(0), -100 - bytes.length);
        isWrong("what taking leaves", 13, bytes);
    }

    private static void kind() {
        int[] deal = oneSign(0, 256);
        isRight("kind 0", 0, empty(0, 8, 1, deal));
        isRight("kind 1", 0, empty(1, 8, 1));
        isRight("kind 2", 0, empty(2, 8, 1, deal));
        isRight("kind 3", 0, empty(3, 8, 1, Make.join(deal, deal, deal, deal)));
        isRight("kind 4", 0, empty(4, 8, 1));
        for (int kind : new int[] {5, 6, 127, 128, 255}) {
            isWrong("kind " + kind, 0, empty(kind, 8, 1));
        }
    }

    private static void r() {
        for (int r = 8; r <= 12; r++) {
            isRight("r " + r, 0, empty(1, r, 1));
            isRight("r " + r + ", FIXED", 0, empty(0, r, 1, oneSign(255, 1 << r)));
        }
        for (int r : new int[] {0, 7, 13, 16, 255}) {
            isWrong("r " + r, 1, empty(1, r, 1));
        }
    }

    private static void n() {
        for (int n = 1; n <= 4; n++) {
            isRight("n " + n, 0, empty(4, 9, n));
        }
        isWrong("n 0", 2, empty(1, 8, 0));
        isWrong("n 5", 2, empty(1, 8, 5));
        isWrong("n 255", 2, 1, 8, 255, 0, 0, 0, 1, 0, 0, 0);
    }

    private static void signs() {
        int[] tail = Make.join(oneSign(9, 256), Make.bytes(0, 1, 0, 0, 0));
        for (int signs : new int[] {0, 1, 255, 256, 399, 400}) {
            isRight(signs + " signs", signs, Make.join(Make.bytes(0, 8, 1), Make.number(signs, 2), tail));
        }
        for (int signs : new int[] {401, 512, 32768, 65535}) {
            isWrong(signs + " signs", 3, Make.join(Make.bytes(0, 8, 1), Make.number(signs, 2), tail));
        }
    }

    private static int[] allSigns() {
        int[] deal = Make.number(256, 2);
        for (int sign = 0; sign < 256; sign++) {
            deal = Make.join(deal, Make.bytes(sign, 0, 0));
        }
        return deal;
    }

    private static void dealt() {
        int[] one = oneSign(7, 256);
        isRight("1 sign has shares", 0, empty(0, 8, 1, one));
        isRight("256 signs have shares", 0, empty(2, 8, 1, allSigns()));
        isWrong("no sign has shares", 5, empty(0, 8, 1, 0, 0));
        int[] more = allSigns();
        more[1] = 1;
        isWrong("257 signs have shares", 5, empty(2, 8, 1, more));
        isWrong("65535 signs have shares", 5, empty(2, 8, 1, 255, 255));
        for (int part = 0; part < 4; part++) {
            int[] deals = Make.join(one, one, one, one);
            deals[5 * part + 1] = 0;
            isWrong("no sign has shares in part " + part, 5 + 5 * part, empty(3, 8, 1, deals));
        }
    }

    private static void notAbove() {
        isRight("0 and 1", 0, empty(0, 8, 1, 0, 2, 0, 0, 99, 1, 0, 155));
        isRight("0 and 255", 0, empty(0, 8, 1, 0, 2, 0, 0, 99, 255, 0, 155));
        isRight("254 and 255", 0, empty(0, 8, 1, 0, 2, 254, 0, 99, 255, 0, 155));
        isWrong("0 and 0", 10, empty(0, 8, 1, 0, 2, 0, 0, 99, 0, 0, 155));
        isWrong("1 and 0", 10, empty(0, 8, 1, 0, 2, 1, 0, 99, 0, 0, 155));
        isWrong("255 and 255", 10, empty(0, 8, 1, 0, 2, 255, 0, 99, 255, 0, 155));
        isWrong("255 and 0", 10, empty(0, 8, 1, 0, 2, 255, 0, 99, 0, 0, 155));
        isWrong("1, 2 and 2", 13, empty(0, 8, 1, 0, 3, 1, 0, 0, 2, 0, 0, 2, 0, 253));
        isWrong("a sign not above, ahead of its shares", 10, empty(0, 8, 1, 0, 2, 1, 0, 99, 1, 255, 255));
        int[] one = oneSign(200, 256);
        isRight("each of four deals begins anew", 0, empty(3, 8, 1, Make.join(one, oneSign(0, 256), one, one)));
    }

    private static void shares() {
        for (int r = 8; r <= 12; r++) {
            int all = 1 << r;
            isRight("all shares", 0, empty(0, r, 1, oneSign(1, all)));
            isWrong("one more than all", 8, empty(0, r, 1, oneSign(1, all + 1)));
            isWrong("one fewer than all, of the last", 8, empty(0, r, 1, oneSign(1, all - 1)));
            isWrong("one share, of the last", 8, empty(0, r, 1, oneSign(1, 1)));
            isWrong("65536 shares", 8, empty(0, r, 1, 0, 1, 1, 255, 255));
            isRight("all but one, and one", 0, empty(0, r, 1, two(all - 1, 1)));
            isRight("one, and all but one", 0, empty(0, r, 1, two(1, all - 1)));
            isWrong("all, and one", 11, empty(0, r, 1, two(all, 1)));
            isWrong("one more than all, and one", 8, empty(0, r, 1, two(all + 1, 1)));
            isWrong("with those ahead one more than all", 11, empty(0, r, 1, two(all - 1, 2)));
            isWrong("with those ahead one fewer than all", 11, empty(0, r, 1, two(all - 2, 1)));
            isWrong("all, and all", 11, empty(0, r, 1, two(all, all)));
        }
        int[] three = {0, 3, 1, 0, 127, 2, 0, 128, 3, 0, 0};
        isWrong("of three, the second has too many", 11, empty(0, 8, 1, three));
        three[7] = 127;
        isWrong("of three, none is left for the third", 14, empty(0, 8, 1, three));
        three[7] = 126;
        isRight("of three, one is left for the third", 0, empty(0, 8, 1, three));
        three[7] = 125;
        isWrong("of three, the third does not reach M", 14, empty(0, 8, 1, three));
        for (int part = 0; part < 4; part++) {
            int[] one = oneSign(7, 256);
            int[] deals = Make.join(one, one, one, one);
            deals[5 * part + 4] = 254;
            isWrong("one fewer in part " + part, 5 + 5 * part + 3, empty(3, 8, 1, deals));
            deals[5 * part + 3] = 1;
            isWrong("more in part " + part, 5 + 5 * part + 3, empty(3, 8, 1, deals));
        }
    }

    private static int[] two(int first, int second) {
        return Make.join(Make.bytes(0, 2, 1), Make.number(first - 1, 2), Make.bytes(2), Make.number(second - 1, 2));
    }

    /** The state of a lane at its bounds: within them, only what taking leaves is wrong, at the first state. */
    private static void states() {
        for (int r = 8; r <= 12; r++) {
            int all = 1 << r;
            for (int lane = 0; lane < 4; lane++) {
                for (int state : new int[] {0, 1, all - 1, all, all + 1, 256 * all - 1, 256 * all, (1 << 24) - 1}) {
                    int[] bytes = empty(1, r, 4);
                    System.arraycopy(Make.number(state, 3), 0, bytes, 5 + 3 * lane, 3);
                    boolean within = state >= all && state < 256 * all;
                    String what = "r " + r + ": state " + state + " of lane " + lane;
                    if (state == all) {
                        isRight(what, 0, bytes);
                    } else {
                        isWrong(what, within ? 5 : 5 + 3 * lane, bytes);
                    }
                }
            }
        }
        highestState();
    }

    /** A block can end packing with the highest state there is: 65280 and 255 of 256 times 256. */
    private static void highestState() {
        Random random = new Random(23);
        boolean found = false;
        for (int round = 0; round < 200000 && !found; round++) {
            BalanceCoder x = new BalanceCoder();
            int f = 1 + random.nextInt(255);
            Make.fixed(x, 8, 0, 256 - f, 1, f);
            int n = 2 + random.nextInt(12);
            x.put(0, 1, 1);
            for (int i = 1; i < n; i++) {
                x.put(0, random.nextInt(2), 1);
            }
            x.pack(0, 0, 1);
            found = x.block(5 + 8 + 1) == 255 && x.block(5 + 8 + 2) == 255;
            if (found) {
                DUE.due("the highest state, taken", x.take(1), n);
            }
        }
        DUE.holds("a block with the highest state", found);
    }

    private static void numberOfBytes() {
        isWrong("one more than there are", 8, 1, 8, 1, 0, 1, 0, 1, 97, 0, 2, 0);
        isWrong("one fewer than there are", 8, 1, 8, 1, 0, 1, 0, 1, 97, 0, 0, 0);
        isWrong("256 more than there are", 8, 1, 8, 1, 0, 1, 0, 1, 97, 1, 1, 0);
        isWrong("65535", 8, 1, 8, 1, 0, 1, 0, 1, 97, 255, 255, 0);
        isRight("just so many", 1, 1, 8, 1, 0, 1, 0, 1, 97, 0, 1, 0);
        BalanceCoder x = new BalanceCoder();
        Make.block(x, 1, 8, 1, 0, 0, 0, 1, 0, 0, 0);
        DUE.due("none, and no SUM", x.take(0), -108);
        x.more(0, 1);
        DUE.due("none, and half a SUM", x.take(0), -108);
        x.more(27, 1);
        DUE.due("none, and the SUM", x.take(0), 0);
        x.more(0, 1);
        DUE.due("none, and one behind the SUM", x.take(0), -108);
        Make.block(x, 1, 8, 1, 0, 0, 0, 1, 0, 0, 1, 0, 0);
        DUE.due("one, and half a SUM", x.take(0), -108);
    }

    private static void wrongSum() {
        int[] bytes = empty(1, 8, 1);
        for (int mask : new int[] {1, 2, 128, 256, 1 << 15}) {
            BalanceCoder x = new BalanceCoder();
            Make.block(x, Make.join(bytes, Make.number(27 ^ mask, 2)));
            DUE.due("SUM " + (27 ^ mask), x.take(0), -110);
        }
        BalanceCoder x = new BalanceCoder();
        Make.block(x, Make.join(bytes, Make.bytes(27, 0)));
        DUE.due("the low byte first", x.take(0), -110);
        Make.block(x, Make.join(bytes, Make.number(27 + 65521 & 65535, 2)));
        DUE.due("a SUM that is alike modulo 65521, cut", x.take(0), -110);
    }

    private static void taking() {
        isWrong("FLAT: the first state is at 5", 5, 1, 8, 1, 0, 0, 0, 1, 1, 0, 0);
        isWrong("GROWING: the first state is at 5", 5, 4, 8, 3, 0, 0, 0, 1, 0, 0, 1, 0, 0, 1, 1, 0, 0);
        int[] one = oneSign(7, 256);
        int[] bytes = empty(0, 8, 1, one);
        bytes[12] = 1;
        isWrong("FIXED: it is behind the deal", 10, bytes);
        bytes[0] = 2;
        isWrong("LEARNT: it is behind the deal", 10, bytes);
        bytes = empty(3, 8, 2, Make.join(one, one, one, one));
        bytes[30] = 1;
        isWrong("MIXED: it is behind all four, the second lane, too", 25, bytes);
    }

    private static void cut() {
        int[] bytes = Make.join(Make.bytes(3, 8, 2, 0, 0), two(100, 156), two(100, 156), oneSign(9, 256),
                oneSign(8, 256), Make.bytes(0, 1, 0, 0, 1, 0, 0, 0));
        for (int length = 0; length < bytes.length; length++) {
            BalanceCoder x = new BalanceCoder();
            Make.block(x, java.util.Arrays.copyOf(bytes, length));
            DUE.due("cut at " + length, x.take(0), -100 - length);
        }
        isRight("not cut", 0, bytes);
        BalanceCoder x = new BalanceCoder();
        Make.block(x, 1, 8, 1, 255);
        DUE.due("a number that is cut, its high byte too high", x.take(0), -104);
        Make.block(x, 1, 8, 1, 0, 0, 255, 255);
        DUE.due("a state that is cut, its high byte too high", x.take(0), -107);
        Make.block(x, 0, 8, 1, 0, 0, 9);
        DUE.due("how many signs have shares, cut", x.take(0), -106);
        Make.block(x, 0, 8, 1, 0, 0, 0, 1, 7, 255);
        DUE.due("shares that are cut", x.take(0), -109);
    }

    private static void marked(String what, BalanceCoder x, int n) {
        for (int k = 1; k <= n + 1; k++) {
            DUE.due(what + ": marks each " + k, x.mark(k), (n + k - 1) / k);
            for (int i = 0; i < n; i++) {
                DUE.due(what + ": marks each " + k + ", skip(" + i + ")", x.skip(i), x.at(0, i));
                DUE.due(what + ": marks each " + k + ", read up to " + i, x.told(1), i % k + 1);
            }
        }
    }

    private static void marks() {
        for (int kind = 0; kind <= 3; kind++) {
            for (int lanes = 1; lanes <= 4; lanes++) {
                BalanceCoder x = packedBy(kind, lanes);
                marked("pack, kind " + kind, x, 6);
                x.alter(0, 0);
                DUE.due("no marks of an altered block", x.mark(1), -6);
                x.take(1);
                DUE.due("no marks of a taken block yet", x.told(4), 0);
                marked("take, kind " + kind, x, 6);
            }
        }
        BalanceCoder x = new BalanceCoder();
        Make.fill(x, 0, 97, 9);
        DUE.due("a LEARNT block is sought", x.search(0), 2081);
        DUE.due("no marks of a block that was sought yet", x.told(4), 0);
        marked("search", x, 9);
    }
}
