/** Promises 24 to 26, sentence by sentence: keep, back, told. */
public final class WholeSentencesTest {
    private static final Due DUE = new Due("WholeSentencesTest");

    public static void main(String[] args) {
        Part part = Part.promise(DUE, 24);
        part.says("All (but numbers that wait, and what is kept) is kept,", WholeSentencesTest::keepAll);
        part.says("in place of what was: 1.", WholeSentencesTest::keepInPlace);
        part.end();
        part = Part.promise(DUE, 25);
        part.says("All is as it was kept (which stays): 1.", WholeSentencesTest::back);
        part.says("NONE: nothing is kept.", WholeSentencesTest::backNone);
        part.end();
        part = Part.promise(DUE, 26);
        part.says("0 the place of the latest MISSING (0 at first),", WholeSentencesTest::toldMissing);
        part.says("1 signs read by the latest skip() (0 at first),", WholeSentencesTest::toldRead);
        part.says("2 tables,", WholeSentencesTest::toldTables);
        part.says("3 whether THE BLOCK was made or taken (1, 0),", WholeSentencesTest::toldMade);
        part.says("4 its marks (0: none),", WholeSentencesTest::toldMarks);
        part.says("5 numbers that wait,", WholeSentencesTest::toldWaiting);
        part.says("6 how many acts answered a finding, or a WRONG, ever", WholeSentencesTest::toldFindings);
        part.says("(this one, too, if it does; it goes on with back()).", WholeSentencesTest::toldFindingsGoOn);
        part.says("BEYOND: another what.", WholeSentencesTest::toldBeyond);
        part.end();
        DUE.end();
    }

    /** All that can be kept is other than at first. */
    private static BalanceCoder rich() {
        BalanceCoder x = new BalanceCoder();
        for (int p = 0; p < 6; p++) {
            Make.fill(x, p, 10 * p + 1, p + 1);
        }
        Make.fixed(x, 8, 1, 256);
        x.table(2, 9);
        x.learn(1, 2);
        x.table(3, 9);
        x.learn(2, 3);
        x.pack(0, 5, 1);
        x.pack(1, 2, 2);
        x.mark(2);
        x.skip(1);
        return x;
    }

    /** A row, a table, the block, its steps and marks, what was told: all are other than rich() made them. */
    private static void changeAll(BalanceCoder x) {
        for (int p = 0; p < 6; p++) {
            x.clear(p);
            Make.fill(x, p, 99, 9);
        }
        x.share(0, 1, 255);
        x.learn(1, 0);
        x.learn(2, 0);
        x.table(4, 12);
        x.pack(3, 0, 4);
        x.pack(1, 0, 3);
        x.mark(1);
        x.skip(0);
        Make.put(x, 0, 98);
        x.ahead(1, 0, 1);
    }

    private static void isRich(String what, BalanceCoder x) {
        for (int p = 0; p < 6; p++) {
            DUE.due(what + ": row " + p, x.at(p, -1), p + 1);
            DUE.due(what + ": row " + p + ", its last", x.at(p, p), 10 * p + 1);
        }
        DUE.due(what + ": tables", x.told(2), 3);
        DUE.due(what + ": FIXED", x.shares(0, 0, 1, false), 256);
        DUE.due(what + ": LEARNT", x.shares(1, 0, 21, false), 512);
        DUE.due(what + ": MIXED", x.shares(2, 3, 31, false), 512);
        DUE.due(what + ": MIXED, no counts", x.shares(2, 2, 31, false), 2);
        DUE.due(what + ": block", x.block(-1), 5 + 5 + 6 + 2 + 2);
        DUE.due(what + ": block's lanes", x.block(2), 2);
        DUE.due(what + ": made", x.told(3), 1);
        DUE.due(what + ": marks", x.told(4), 2);
        DUE.due(what + ": steps", x.step(2, 0), 21);
        DUE.due(what + ": no step more", x.step(3, 0), -1);
        DUE.due(what + ": missing", x.told(0), 5);
        DUE.due(what + ": read", x.told(1), 2);
        DUE.due(what + ": right", x.take(2), 3);
    }

    private static void keepAll() {
        BalanceCoder x = rich();
        isRich("rich", x);
        x.tell(1);
        DUE.due("keep()", x.keep(), 1);
        isRich("behind keep()", x);
        x.tell(2);
        x.back();
        DUE.due("numbers that wait are not kept", x.told(5), 2);
        x.check();
        x.back();
        DUE.due("numbers that wait are not kept", x.told(5), 0);
        changeAll(x);
        DUE.due("another missing", x.told(0), 9);
        DUE.due("another read", x.told(1), 1);
        x.back();
        isRich("kept", x);
        x.more(0, -1);
        x.back();
        isRich("kept, bytes fewer", x);
        x.alter(0, 255);
        x.back();
        isRich("kept, a byte altered", x);
    }

    private static void keepInPlace() {
        BalanceCoder x = rich();
        x.keep();
        Make.put(x, 1, 7);
        DUE.due("keep() again", x.keep(), 1);
        x.clear(1);
        x.back();
        DUE.due("what was kept last", x.at(1, -1), 3);
        x.back();
        DUE.due("nothing is kept of before", x.at(1, -1), 3);
        x = new BalanceCoder();
        x.keep();
        DUE.due("keep() of a new object, kept again", x.keep(), 1);
        changeAll(x);
        x.back();
        DUE.due("a new object: tables", x.told(2), 0);
        DUE.due("a new object: block", x.block(-1), 0);
        DUE.due("a new object: row", x.at(0, -1), 0);
        DUE.due("a new object: made", x.told(3), 0);
        DUE.due("a new object: missing", x.told(0), 0);
        DUE.due("a new object: read", x.told(1), 0);
    }

    private static void back() {
        BalanceCoder x = rich();
        x.keep();
        for (int round = 0; round < 3; round++) {
            changeAll(x);
            DUE.due("back()", x.back(), 1);
            isRich("back, round " + round, x);
        }
        DUE.due("back() behind back()", x.back(), 1);
        isRich("back twice", x);
        x.table(1, 8);
        x.back();
        DUE.due("a table with the number of one that is gone", x.table(2, 8), 3);
        DUE.due("it has nothing of that", x.shares(3, 0, 0, false), -4);
        for (int number = 4; number < 10; number++) {
            x.table(0, 8);
        }
        x.keep();
        DUE.due("10 tables", x.table(0, 8), -2);
        x.back();
        DUE.due("10 tables come again", x.table(0, 8), -2);
    }

    private static void backNone() {
        BalanceCoder x = new BalanceCoder();
        DUE.due("back() of a new object", x.back(), -6);
        x = rich();
        DUE.due("back() with nothing kept", x.back(), -6);
        isRich("back() with nothing kept", x);
        x.keep();
        DUE.due("back() with something kept", x.back(), 1);
    }

    private static void toldMissing() {
        BalanceCoder x = new BalanceCoder();
        DUE.due("told(0) at first", x.told(0), 0);
        Make.fixed(x, 8, 1, 256);
        Make.put(x, 0, 1, 2, 1, 2, 1);
        x.pack(0, 0, 1);
        DUE.due("told(0) of pack()", x.told(0), 3);
        x.cost(0, 0, 0);
        DUE.due("told(0) of cost()", x.told(0), 1);
        x.ahead(0, 0, 1);
        DUE.due("told(0) of ahead()", x.told(0), 3);
        x.pack(0, 0, 0);
        x.ahead(1, 0, 1);
        x.cost(0, 1, 0);
        x.pack(0, 1, 1);
        DUE.due("told(0) stays with other answers", x.told(0), 3);
        x.share(0, 1, 0);
        x.pack(0, 0, 1);
        x.cost(0, 0, 0);
        DUE.due("told(0) stays with OPEN", x.told(0), 3);
    }

    private static void toldRead() {
        BalanceCoder x = new BalanceCoder();
        DUE.due("told(1) at first", x.told(1), 0);
        x.skip(0);
        DUE.due("told(1), skip() was refused", x.told(1), 0);
        x = rich();
        DUE.due("told(1)", x.told(1), 2);
        x.skip(2);
        DUE.due("told(1) of the latest", x.told(1), 1);
        x.skip(3);
        x.mark(3);
        x.alter(0, 0);
        x.skip(0);
        DUE.due("told(1) stays", x.told(1), 1);
    }

    private static void toldTables() {
        BalanceCoder x = new BalanceCoder();
        for (int number = 0; number <= 10; number++) {
            DUE.due("told(2), " + number, x.told(2), number);
            x.table(number % 5, 12);
        }
        DUE.due("told(2), an eleventh was refused", x.told(2), 10);
    }

    private static void toldMade() {
        BalanceCoder x = new BalanceCoder();
        DUE.due("told(3) at first", x.told(3), 0);
        Make.put(x, 0, 1);
        x.table(1, 8);
        x.ahead(0, 0, 1);
        DUE.due("told(3) behind ahead()", x.told(3), 0);
        x.pack(0, 0, 1);
        DUE.due("told(3) behind pack()", x.told(3), 1);
        x.alter(0, 0);
        DUE.due("told(3) behind alter()", x.told(3), 0);
        x.take(1);
        DUE.due("told(3) behind take()", x.told(3), 1);
        x.more(0, 1);
        DUE.due("told(3) behind more()", x.told(3), 0);
        x.take(1);
        DUE.due("told(3) behind take() of a wrong one", x.told(3), 0);
        x.search(0);
        DUE.due("told(3) behind search()", x.told(3), 1);
        x.clear(0);
        DUE.due("told(3), the row is gone", x.told(3), 1);
    }

    private static void toldMarks() {
        BalanceCoder x = new BalanceCoder();
        DUE.due("told(4) at first", x.told(4), 0);
        x.mark(1);
        DUE.due("told(4), refused", x.told(4), 0);
        x = rich();
        DUE.due("told(4)", x.told(4), 2);
        x.mark(1);
        DUE.due("told(4) of others in place", x.told(4), 3);
        x.pack(1, 2, 1);
        DUE.due("told(4) of a new block", x.told(4), 0);
    }

    private static void toldWaiting() {
        BalanceCoder x = new BalanceCoder();
        DUE.due("told(5) at first", x.told(5), 0);
        for (int i = 1; i <= 401; i++) {
            x.tell(i);
        }
        DUE.due("told(5), no more than 400", x.told(5), 400);
        x.check();
        DUE.due("told(5) behind check()", x.told(5), 0);
    }

    /** Each act once with a finding, in the order of the document's face; keep() has none. */
    private static int refuse(BalanceCoder x, int act) {
        switch (act) {
            case 0: return x.put(6, 0, 1);
            case 1: return x.clear(6);
            case 2: return x.at(6, 0);
            case 3: return x.copy(6, 0, 0, 0);
            case 4: return x.table(5, 8);
            case 5: return x.share(10, 0, 0);
            case 6: return x.learn(10, 0);
            case 7: return x.shares(10, 0, 0, false);
            case 8: return (int) x.cost(10, 0, 0);
            case 9: return x.as(10, 0);
            case 10: return x.pack(10, 0, 1);
            case 11: return x.ahead(10, 0, 1);
            case 12: return x.take(6);
            case 13: return x.block(-2);
            case 14: return x.alter(-1, 0);
            case 15: return x.more(0, 0);
            case 16: return x.search(6);
            case 17: return x.step(-1, 0);
            case 18: return x.mark(0);
            case 19: return x.skip(-1);
            case 20: return x.told(7);
            default: return 0;
        }
    }

    private static void toldFindings() {
        BalanceCoder x = rich();
        int before = x.told(6);
        for (int act = 0; act <= 20; act++) {
            DUE.due("act " + act + " is refused", refuse(x, act), -1);
            DUE.due("told(6) behind act " + act, x.told(6), before + act + 1);
        }
        x = new BalanceCoder();
        for (int i = 1; i <= 400; i++) {
            x.tell(i);
        }
        DUE.due("told(6) at first", x.told(6), 0);
        x.tell(1);
        DUE.due("told(6) behind tell()", x.told(6), 1);
        x.check();
        DUE.due("told(6) behind check()", x.told(6), 2);
        x.back();
        DUE.due("told(6) behind back()", x.told(6), 3);
        x.take(0);
        DUE.due("told(6) behind a WRONG", x.told(6), 4);
        Make.put(x, 0, 1);
        x.table(1, 8);
        x.pack(0, 0, 1);
        x.check();
        DUE.due("told(6), check() tells the first that is missing", x.told(6), 4);
        x.keep();
        DUE.due("told(6) behind keep()", x.told(6), 4);
    }

    private static void toldFindingsGoOn() {
        BalanceCoder x = new BalanceCoder();
        DUE.due("told(-1)", x.told(-1), -1);
        DUE.due("told(6) counts told(-1)", x.told(6), 1);
        x.keep();
        x.told(7);
        x.clear(9);
        x.back();
        DUE.due("told(6) goes on with back()", x.told(6), 3);
        DUE.due("told(6) does not count itself", x.told(6), 3);
    }

    private static void toldBeyond() {
        BalanceCoder x = rich();
        for (int what : Make.beside(0, 6)) {
            DUE.due("told(" + what + ")", x.told(what), -1);
        }
    }
}
