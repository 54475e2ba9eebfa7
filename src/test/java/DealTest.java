import java.util.Random;

/** Promise 8, DEALING: no deal costs less, and of those that cost the same it is the one that is told. */
public final class DealTest {
    private static final Due DUE = new Due("DealTest");
    private static final Random RANDOM = new Random(5);

    public static void main(String[] args) {
        for (int r = 8; r <= 12; r++) {
            for (int round = 0; round < 12; round++) {
                int signs = 1 + RANDOM.nextInt(r < 11 ? 12 : 4);
                compare(r, counts(signs, 400));
            }
            compare(r, new int[] {200, 200});
            compare(r, new int[] {1, 399});
            compare(r, new int[] {399, 1});
            compare(r, new int[] {1, 1, 1});
            compare(r, new int[] {133, 133, 134});
        }
        int[] each = new int[256];
        java.util.Arrays.fill(each, 1);
        compare(8, each);
        compare(9, each);
        each[255] = 145;
        compare(9, each);
        compare(10, each);
        DUE.end();
    }

    private static int[] counts(int signs, int most) {
        int[] counts = new int[signs];
        int rest = RANDOM.nextInt(most - signs + 1);
        for (int s = 0; s < signs; s++) {
            int some = RANDOM.nextInt(rest + 1);
            counts[s] = 1 + some;
            rest -= some;
        }
        return counts;
    }

    /** Least cost over all deals, sign by sign from the last one, then the most shares from the lowest sign on. */
    private static int[] best(int[] counts, int all) {
        int signs = counts.length;
        long[] each = new long[all + 1];
        for (int f = all - 1; f >= 1; f--) {
            each[f] = each[f + 1] + 1000000 / f;
        }
        long[][] least = new long[signs + 1][all + 1];
        java.util.Arrays.fill(least[signs], Long.MAX_VALUE / 4);
        least[signs][0] = 0;
        for (int s = signs - 1; s >= 0; s--) {
            for (int m = 0; m <= all; m++) {
                long found = Long.MAX_VALUE / 4;
                for (int f = 1; f <= m; f++) {
                    found = Math.min(found, counts[s] * each[f] + least[s + 1][m - f]);
                }
                least[s][m] = found;
            }
        }
        int[] deal = new int[signs];
        int m = all;
        for (int s = 0; s < signs; s++) {
            for (int f = m; f >= 1 && deal[s] == 0; f--) {
                if (counts[s] * each[f] + least[s + 1][m - f] == least[s][m]) {
                    deal[s] = f;
                }
            }
            m -= deal[s];
        }
        return deal;
    }

    /** Sign s of the counts stands as sign 256 / signs * s in the row, so that there are gaps. */
    private static void compare(int r, int[] counts) {
        BalanceCoder x = new BalanceCoder();
        int gap = 256 / counts.length;
        for (int s = 0; s < counts.length; s++) {
            for (int left = counts[s]; left > 0; left -= 8) {
                x.put(0, gap * s * 0x0101010101010101L, Math.min(8, left));
            }
        }
        x.table(2, r);
        x.learn(0, 0);
        int[] due = best(counts, 1 << r);
        for (int s = 0; s < counts.length; s++) {
            DUE.due("r " + r + ", counts " + java.util.Arrays.toString(counts) + ": sign " + s,
                    x.shares(0, 0, gap * s, false), due[s]);
        }
        DUE.due("all shares", x.shares(0, 0, 255, true) + x.shares(0, 0, 255, false), 1 << r);
    }
}
