/** What tests need again and again: rows, tables and blocks as they want them, and numbers that are not allowed. */
final class Make {
    private Make() {
    }

    /** Numbers beside a span, near and far, and such as would be in it if their high bits were lost. */
    static int[] beside(int least, int most) {
        return new int[] {least - 1, most + 1, least - 2, most + 2, least - 65536, most + 65536, least + (1 << 30),
            Integer.MIN_VALUE, Integer.MIN_VALUE + most, Integer.MAX_VALUE};
    }

    static void put(BalanceCoder x, int p, int... signs) {
        for (int sign : signs) {
            x.put(p, sign, 1);
        }
    }

    /** So many signs, all alike, come behind a row, with few calls. */
    static void fill(BalanceCoder x, int p, int sign, int n) {
        for (int left = n; left > 0; left -= 8) {
            x.put(p, sign * 0x0101010101010101L, Math.min(8, left));
        }
    }

    /** A FIXED table; behind it sign and shares by turns. */
    static int fixed(BalanceCoder x, int r, int... signsAndShares) {
        int table = x.table(0, r);
        for (int i = 0; i < signsAndShares.length; i += 2) {
            x.share(table, signsAndShares[i], signsAndShares[i + 1]);
        }
        return table;
    }

    /** All 256 signs, from 0 on, come behind a row. */
    static void all(BalanceCoder x, int p) {
        for (int i = 0; i < 256; i += 8) {
            x.put(p, 0x0001020304050607L + i * 0x0101010101010101L, 8);
        }
    }

    /** The bytes are THE BLOCK, in place of what was. */
    static void block(BalanceCoder x, int... bytes) {
        for (int left = x.block(-1); left > 0; left = x.block(-1)) {
            x.more(0, -Math.min(400, left));
        }
        for (int b : bytes) {
            x.more(b, 1);
        }
    }

    /** The bytes and their SUM are THE BLOCK. */
    static void blockWithSum(BalanceCoder x, int... bytes) {
        block(x, bytes);
        x.more(sum(bytes), 2);
    }

    static int sum(int... bytes) {
        long sum = 0;
        for (int i = 0; i < bytes.length; i++) {
            sum += (i + 1L) * bytes[i];
        }
        return (int) (sum % 65521);
    }

    /** Bytes of several rows, one behind the other. */
    static int[] join(int[]... rows) {
        int size = 0;
        for (int[] row : rows) {
            size += row.length;
        }
        int[] all = new int[size];
        int at = 0;
        for (int[] row : rows) {
            System.arraycopy(row, 0, all, at, row.length);
            at += row.length;
        }
        return all;
    }

    static int[] bytes(int... bytes) {
        return bytes;
    }

    /** A number of so many bytes, the high one first. */
    static int[] number(int number, int size) {
        int[] bytes = new int[size];
        for (int i = 0; i < size; i++) {
            bytes[i] = number >>> (8 * (size - 1 - i)) & 255;
        }
        return bytes;
    }
}
