/** Promises 1 to 5, sentence by sentence: a new object, put, clear, at, copy. */
public final class RowSentencesTest {
    private static final Due DUE = new Due("RowSentencesTest");

    public static void main(String[] args) {
        Part part = Part.promise(DUE, 1);
        part.says("Empty rows, no tables, an empty block.", RowSentencesTest::newObject);
        part.end();
        part = Part.promise(DUE, 2);
        part.says("The n lowest bytes of w, the highest first, come behind row p: how many signs it has.",
                RowSentencesTest::put);
        part.says("BEYOND: no such row, or n is not 1 to 8.", RowSentencesTest::putBeyond);
        part.says("FULL: it would have more than 400.", RowSentencesTest::putFull);
        part.end();
        part = Part.promise(DUE, 3);
        part.says("The row is empty: how many signs it had.", RowSentencesTest::clear);
        part.says("BEYOND.", RowSentencesTest::clearBeyond);
        part.end();
        part = Part.promise(DUE, 4);
        part.says("Sign i of a row; i = -1: how many it has.", RowSentencesTest::at);
        part.says("BEYOND: no such row, or sign.", RowSentencesTest::atBeyond);
        part.end();
        part = Part.promise(DUE, 5);
        part.says("n signs of row p from one on come behind row q (as if taken away first): how many q has.",
                RowSentencesTest::copy);
        part.says("BEYOND: no such row (either), from or n is below 0, or p has not so many.",
                RowSentencesTest::copyBeyond);
        part.says("FULL.", RowSentencesTest::copyFull);
        part.end();
        DUE.end();
    }

    private static void newObject() {
        BalanceCoder x = new BalanceCoder();
        for (int p = 0; p < 6; p++) {
            DUE.due("new: row " + p, x.at(p, -1), 0);
            DUE.due("new: clear of row " + p, x.clear(p), 0);
            DUE.due("new: take to row " + p, x.take(p), -100);
        }
        DUE.due("new: tables", x.told(2), 0);
        for (int table = 0; table < 10; table++) {
            DUE.due("new: table " + table, x.as(table, 1), -1);
        }
        DUE.due("new: block(-1)", x.block(-1), 0);
        DUE.due("new: more(0, -1)", x.more(0, -1), -1);
    }

    private static void put() {
        BalanceCoder x = new BalanceCoder();
        DUE.due("put of one, bytes above it set", x.put(0, -256L, 1), 1);
        DUE.due("put of one: the sign", x.at(0, 0), 0);
        DUE.due("put of the highest sign", x.put(0, 255L, 1), 2);
        DUE.due("put of the highest sign: it", x.at(0, 1), 255);
        DUE.due("put of eight, the highest bit set", x.put(5, 0x80000000000000FFL, 8), 8);
        int[] due = {128, 0, 0, 0, 0, 0, 0, 255};
        for (int i = 0; i < 8; i++) {
            DUE.due("put of eight: sign " + i, x.at(5, i), due[i]);
        }
        for (int n = 1; n <= 8; n++) {
            x.clear(1);
            DUE.due("put of " + n, x.put(1, 0xF1F2F3F4F5F6F7F8L, n), n);
            for (int i = 0; i < n; i++) {
                DUE.due("put of " + n + ": sign " + i, x.at(1, i), 0xF8 - (n - 1 - i));
            }
        }
        DUE.due("put behind what there is", x.put(1, 7, 1), 9);
        DUE.due("put behind: the first stays", x.at(1, 0), 0xF1);
        DUE.due("put behind: the last", x.at(1, 8), 7);
        DUE.due("put: other rows stay", x.at(2, -1), 0);
    }

    private static void putBeyond() {
        BalanceCoder x = new BalanceCoder();
        for (int p : Make.beside(0, 5)) {
            DUE.due("put(" + p + ", 1, 1)", x.put(p, 1, 1), -1);
        }
        for (int n : Make.beside(1, 8)) {
            DUE.due("put(0, 1, " + n + ")", x.put(0, 1, n), -1);
        }
        for (int p = 0; p < 6; p++) {
            DUE.due("put: row " + p + " stays empty", x.at(p, -1), 0);
        }
    }

    private static void putFull() {
        for (int n = 1; n <= 8; n++) {
            BalanceCoder x = new BalanceCoder();
            Make.fill(x, 2, 9, 401 - n);
            DUE.due("put of " + n + " to 401", x.put(2, -1L, n), -2);
            DUE.due("put of " + n + " to 401: nothing comes", x.at(2, -1), 401 - n);
            DUE.due("put: another row is not full", x.put(3, -1L, n), n);
            x.clear(2);
            Make.fill(x, 2, 9, 400 - n);
            DUE.due("put of " + n + " to 400", x.put(2, -1L, n), 400);
            DUE.due("put of " + n + " to 400: the last", x.at(2, 399), 255);
            DUE.due("put to a full row", x.put(2, 0, 1), -2);
            DUE.due("put of too many to a full row", x.put(2, 0, 9), -1);
        }
    }

    private static void clear() {
        BalanceCoder x = new BalanceCoder();
        DUE.due("clear of an empty row", x.clear(0), 0);
        Make.put(x, 0, 3);
        DUE.due("clear of one sign", x.clear(0), 1);
        Make.fill(x, 0, 4, 400);
        DUE.due("clear of a full row", x.clear(0), 400);
        DUE.due("clear: it is empty", x.at(0, -1), 0);
        DUE.due("clear: it has no sign", x.at(0, 0), -1);
        DUE.due("clear: it takes signs again", x.put(0, 5, 1), 1);
    }

    private static void clearBeyond() {
        BalanceCoder x = new BalanceCoder();
        for (int p = 0; p < 6; p++) {
            Make.put(x, p, p);
        }
        for (int p : Make.beside(0, 5)) {
            DUE.due("clear(" + p + ")", x.clear(p), -1);
        }
        for (int p = 0; p < 6; p++) {
            DUE.due("clear: row " + p + " stays", x.clear(p), 1);
        }
    }

    private static void at() {
        BalanceCoder x = new BalanceCoder();
        DUE.due("at(0, -1) of an empty row", x.at(0, -1), 0);
        Make.fill(x, 0, 1, 399);
        Make.put(x, 0, 255);
        DUE.due("at(0, -1) of a full row", x.at(0, -1), 400);
        DUE.due("at(0, 0)", x.at(0, 0), 1);
        DUE.due("at(0, 398)", x.at(0, 398), 1);
        DUE.due("at(0, 399)", x.at(0, 399), 255);
    }

    private static void atBeyond() {
        BalanceCoder x = new BalanceCoder();
        DUE.due("at(0, 0) of an empty row", x.at(0, 0), -1);
        Make.fill(x, 0, 1, 400);
        Make.put(x, 1, 1, 2, 3);
        x.clear(1);
        Make.put(x, 1, 4);
        for (int p : Make.beside(0, 5)) {
            DUE.due("at(" + p + ", -1)", x.at(p, -1), -1);
            DUE.due("at(" + p + ", 0)", x.at(p, 0), -1);
        }
        for (int i : Make.beside(-1, 399)) {
            DUE.due("at(0, " + i + ")", x.at(0, i), -1);
        }
        DUE.due("at(1, 1) of what was cleared", x.at(1, 1), -1);
    }

    private static void copy() {
        BalanceCoder x = new BalanceCoder();
        DUE.due("copy of nothing, from an empty row", x.copy(0, 0, 0, 5), 0);
        Make.put(x, 0, 10, 20, 30);
        DUE.due("copy of nothing, from the end", x.copy(0, 3, 0, 1), 0);
        DUE.due("copy of the last", x.copy(0, 2, 1, 1), 1);
        DUE.due("copy of the last: it", x.at(1, 0), 30);
        DUE.due("copy of all", x.copy(0, 0, 3, 1), 4);
        DUE.due("copy of all: behind what there is", x.at(1, 1), 10);
        DUE.due("copy: p stays", x.at(0, -1), 3);
        DUE.due("copy of all, to itself", x.copy(0, 0, 3, 0), 6);
        int[] due = {10, 20, 30, 10, 20, 30};
        for (int i = 0; i < 6; i++) {
            DUE.due("copy to itself: sign " + i, x.at(0, i), due[i]);
        }
        DUE.due("copy of some, to itself", x.copy(0, 4, 2, 0), 8);
        DUE.due("copy of some, to itself: sign 6", x.at(0, 6), 20);
        DUE.due("copy of some, to itself: sign 7", x.at(0, 7), 30);
        Make.fill(x, 2, 7, 399);
        Make.put(x, 2, 8);
        DUE.due("copy of a full row", x.copy(2, 0, 400, 3), 400);
        DUE.due("copy of a full row: the last", x.at(3, 399), 8);
    }

    private static void copyBeyond() {
        BalanceCoder x = new BalanceCoder();
        Make.put(x, 0, 10, 20, 30);
        for (int p : Make.beside(0, 5)) {
            DUE.due("copy(" + p + ", 0, 0, 1)", x.copy(p, 0, 0, 1), -1);
            DUE.due("copy(0, 0, 0, " + p + ")", x.copy(0, 0, 0, p), -1);
        }
        for (int from : Make.beside(0, 3)) {
            DUE.due("copy(0, " + from + ", 0, 1)", x.copy(0, from, 0, 1), -1);
        }
        for (int n : Make.beside(0, 3)) {
            DUE.due("copy(0, 0, " + n + ", 1)", x.copy(0, 0, n, 1), -1);
        }
        for (int from = 0; from <= 3; from++) {
            DUE.due("copy of one too many from " + from, x.copy(0, from, 4 - from, 1), -1);
        }
        DUE.due("copy: from and n would wrap around", x.copy(0, Integer.MAX_VALUE, 2, 1), -1);
        DUE.due("copy: n and from would wrap around", x.copy(0, 2, Integer.MAX_VALUE, 1), -1);
        DUE.due("copy: both below 0", x.copy(0, -1, -1, 1), -1);
        DUE.due("copy: their sum is within", x.copy(0, -1, 2, 1), -1);
        DUE.due("copy: their sum is within", x.copy(0, 2, -1, 1), -1);
        DUE.due("copy: nothing came", x.at(1, -1), 0);
    }

    private static void copyFull() {
        BalanceCoder x = new BalanceCoder();
        Make.fill(x, 0, 6, 201);
        DUE.due("copy of 201 to itself", x.copy(0, 0, 201, 0), -2);
        DUE.due("copy of 201 to itself: nothing comes", x.at(0, -1), 201);
        DUE.due("copy to 400", x.copy(0, 0, 199, 0), 400);
        DUE.due("copy of one to a full row", x.copy(0, 399, 1, 0), -2);
        DUE.due("copy of none to a full row", x.copy(0, 400, 0, 0), 400);
        Make.put(x, 1, 1);
        DUE.due("copy to 401", x.copy(0, 0, 400, 1), -2);
        DUE.due("copy to 401: nothing comes", x.at(1, -1), 1);
        DUE.due("copy of too many to a full row", x.copy(1, 0, 2, 0), -1);
        DUE.due("copy to 400 of another", x.copy(0, 0, 399, 1), 400);
    }
}
