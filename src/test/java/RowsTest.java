/** Promises 1 to 5: a new object, put, clear, at, copy. */
public final class RowsTest {
    private static final Due DUE = new Due("RowsTest");

    public static void main(String[] args) {
        newObject();
        put();
        clear();
        at();
        copy();
        DUE.end();
    }

    private static void newObject() {
        BalanceCoder x = new BalanceCoder();
        for (int p = 0; p < 6; p++) {
            DUE.due("new: at(" + p + ", -1)", x.at(p, -1), 0);
        }
        DUE.due("new: block(-1)", x.block(-1), 0);
        for (int what = 0; what <= 6; what++) {
            DUE.due("new: told(" + what + ")", x.told(what), 0);
        }
        DUE.due("new: as(0, 0)", x.as(0, 0), -1);
        DUE.due("new: back()", x.back(), -6);
    }

    private static void put() {
        BalanceCoder x = new BalanceCoder();
        DUE.due("put(0, 0x0102030405060708, 8)", x.put(0, 0x0102030405060708L, 8), 8);
        for (int i = 0; i < 8; i++) {
            DUE.due("put: at(0, " + i + ")", x.at(0, i), i + 1);
        }
        DUE.due("put(0, -2, 1)", x.put(0, -2L, 1), 9);
        DUE.due("put: at(0, 8)", x.at(0, 8), 254);
        DUE.due("put(5, 0xAABBCC, 2)", x.put(5, 0xAABBCCL, 2), 2);
        DUE.due("put: at(5, 0)", x.at(5, 0), 0xBB);
        DUE.due("put: at(5, 1)", x.at(5, 1), 0xCC);
        DUE.due("put(-1, 0, 1)", x.put(-1, 0, 1), -1);
        DUE.due("put(6, 0, 1)", x.put(6, 0, 1), -1);
        DUE.due("put(0, 0, 0)", x.put(0, 0, 0), -1);
        DUE.due("put(0, 0, 9)", x.put(0, 0, 9), -1);
        DUE.due("put(0, 0, -1)", x.put(0, 0, -1), -1);
        DUE.due("put(0, 0, MIN)", x.put(0, 0, Integer.MIN_VALUE), -1);
        DUE.due("put(MIN, 0, 1)", x.put(Integer.MIN_VALUE, 0, 1), -1);
        for (int i = 1; i <= 49; i++) {
            x.put(1, 0L, 8);
        }
        DUE.due("put(1, 0, 7) up to 399", x.put(1, 0L, 7), 399);
        DUE.due("put(1, 0, 2) over 400", x.put(1, 0L, 2), -2);
        DUE.due("put(1, 0, 8) over 400", x.put(1, 0L, 8), -2);
        DUE.due("put: FULL changes nothing", x.at(1, -1), 399);
        DUE.due("put(1, 7, 1) up to 400", x.put(1, 7L, 1), 400);
        DUE.due("put: at(1, 399)", x.at(1, 399), 7);
        DUE.due("put(1, 0, 1) when full", x.put(1, 0L, 1), -2);
        DUE.due("put(1, 0, 9) when full", x.put(1, 0L, 9), -1);
    }

    private static void clear() {
        BalanceCoder x = new BalanceCoder();
        DUE.due("clear(0) of an empty row", x.clear(0), 0);
        x.put(0, 0x616263L, 3);
        x.put(1, 0x61L, 1);
        DUE.due("clear(0)", x.clear(0), 3);
        DUE.due("clear: at(0, -1)", x.at(0, -1), 0);
        DUE.due("clear: at(0, 0)", x.at(0, 0), -1);
        DUE.due("clear: another row stays", x.at(1, -1), 1);
        DUE.due("clear(-1)", x.clear(-1), -1);
        DUE.due("clear(6)", x.clear(6), -1);
        DUE.due("put behind clear", x.put(0, 0x64L, 1), 1);
        DUE.due("clear: at(0, 0) then", x.at(0, 0), 0x64);
    }

    private static void at() {
        BalanceCoder x = new BalanceCoder();
        x.put(3, 0x00FF80L, 3);
        DUE.due("at(3, 0)", x.at(3, 0), 0);
        DUE.due("at(3, 1)", x.at(3, 1), 255);
        DUE.due("at(3, 2)", x.at(3, 2), 128);
        DUE.due("at(3, -1)", x.at(3, -1), 3);
        DUE.due("at(3, 3)", x.at(3, 3), -1);
        DUE.due("at(3, -2)", x.at(3, -2), -1);
        DUE.due("at(-1, -1)", x.at(-1, -1), -1);
        DUE.due("at(6, -1)", x.at(6, -1), -1);
        DUE.due("at(3, MAX)", x.at(3, Integer.MAX_VALUE), -1);
    }

    private static void copy() {
        BalanceCoder x = new BalanceCoder();
        x.put(0, 0x0102030405L, 5);
        x.put(1, 0x09L, 1);
        DUE.due("copy(0, 1, 3, 1)", x.copy(0, 1, 3, 1), 4);
        DUE.due("copy: at(1, 0)", x.at(1, 0), 9);
        DUE.due("copy: at(1, 1)", x.at(1, 1), 2);
        DUE.due("copy: at(1, 3)", x.at(1, 3), 4);
        DUE.due("copy: the source stays", x.at(0, -1), 5);
        DUE.due("copy(0, 2, 3, 0) behind itself", x.copy(0, 2, 3, 0), 8);
        DUE.due("copy: at(0, 5)", x.at(0, 5), 3);
        DUE.due("copy: at(0, 7)", x.at(0, 7), 5);
        DUE.due("copy(0, 8, 0, 0)", x.copy(0, 8, 0, 0), 8);
        DUE.due("copy(0, 9, 0, 0)", x.copy(0, 9, 0, 0), -1);
        DUE.due("copy(0, 7, 2, 1)", x.copy(0, 7, 2, 1), -1);
        DUE.due("copy(0, -1, 2, 1)", x.copy(0, -1, 2, 1), -1);
        DUE.due("copy(0, 0, -1, 1)", x.copy(0, 0, -1, 1), -1);
        DUE.due("copy(0, MAX, MAX, 1)", x.copy(0, Integer.MAX_VALUE, Integer.MAX_VALUE, 1), -1);
        DUE.due("copy(0, 1, MAX, 1)", x.copy(0, 1, Integer.MAX_VALUE, 1), -1);
        DUE.due("copy(-1, 0, 0, 1)", x.copy(-1, 0, 0, 1), -1);
        DUE.due("copy(6, 0, 0, 1)", x.copy(6, 0, 0, 1), -1);
        DUE.due("copy(0, 0, 0, -1)", x.copy(0, 0, 0, -1), -1);
        DUE.due("copy(0, 0, 0, 6)", x.copy(0, 0, 0, 6), -1);
        for (int size = 8; size < 256; size *= 2) {
            DUE.due("copy doubles", x.copy(0, 0, size, 0), 2 * size);
        }
        DUE.due("copy(0, 0, 144, 0) to 400", x.copy(0, 0, 144, 0), 400);
        DUE.due("copy(0, 0, 1, 0) when full", x.copy(0, 0, 1, 0), -2);
        DUE.due("copy(0, 0, 0, 0) when full", x.copy(0, 0, 0, 0), 400);
        DUE.due("copy(0, 0, 397, 1)", x.copy(0, 0, 397, 1), -2);
        DUE.due("copy(0, 4, 396, 1)", x.copy(0, 4, 396, 1), 400);
        DUE.due("copy: at(1, 399)", x.at(1, 399), x.at(0, 399));
        DUE.due("copy: FULL after BEYOND", x.copy(0, 0, 401, 1), -1);
    }
}
