import java.util.Random;

/** Promises 1 to 26: long runs of calls, drawn from fixed seeds, on the class and on the plain model. */
public final class ModelTest {
    private static final Due DUE = new Due("ModelTest");
    private static final int CALLS = 512;

    private final Random random;
    private final String run;
    private final int searches;
    private final BalanceCoder x = new BalanceCoder();
    private final Model m = new Model();
    private int calls = 0;
    private int searched = 0;

    private ModelTest(long seed, int searches) {
        this.random = new Random(seed);
        this.run = "run " + seed + ", call ";
        this.searches = searches;
    }

    public static void main(String[] args) {
        int runs = args.length > 0 ? Integer.parseInt(args[0]) : 150;
        int first = args.length > 1 ? Integer.parseInt(args[1]) : 0;
        for (int seed = first; seed < first + runs; seed++) {
            new ModelTest(seed, 2).play();
        }
        DUE.end();
    }

    private void same(String call, long got, long want) {
        calls++;
        DUE.due(run + calls + ": " + call, got, want);
    }

    /** Mostly from 0 to most, at times beside it. */
    private int about(int most) {
        int roll = random.nextInt(24);
        if (roll == 0) {
            return most + 1 + random.nextInt(3);
        }
        if (roll == 1) {
            return -1 - random.nextInt(3);
        }
        if (roll == 2 && random.nextInt(4) == 0) {
            return random.nextBoolean() ? Integer.MAX_VALUE : Integer.MIN_VALUE;
        }
        return random.nextInt(most + 1);
    }

    private int row() {
        return about(5);
    }

    private int tab() {
        return about(Math.max(0, m.told(2) - 1));
    }

    private long word(int style) {
        long w = 0;
        for (int i = 0; i < 8; i++) {
            int sign;
            switch (style) {
                case 0:
                    sign = random.nextInt(256);
                    break;
                case 1:
                    sign = 97 + Math.min(random.nextInt(5), random.nextInt(5));
                    break;
                case 2:
                    sign = random.nextInt(10) == 0 ? random.nextInt(256) : 120;
                    break;
                default:
                    sign = random.nextBoolean() ? 255 : 0;
                    break;
            }
            w = w << 8 | sign;
        }
        return w;
    }

    private void play() {
        int style = random.nextInt(4);
        while (calls < CALLS) {
            act(style);
        }
    }

    private void act(int style) {
        int roll = random.nextInt(100);
        if (roll < 26) {
            rows(random.nextInt(6) == 0 ? random.nextInt(4) : style);
        } else if (roll < 50) {
            tables();
        } else if (roll < 76) {
            blocks();
        } else if (roll < 92) {
            steps();
        } else {
            whole();
        }
    }

    private void rows(int style) {
        int p = row();
        switch (random.nextInt(8)) {
            case 0:
                if (random.nextInt(3) == 0) {
                    same("clear(" + p + ")", x.clear(p), m.clear(p));
                }
                break;
            case 1:
                int i = about(m.at(Math.floorMod(p, 6), -1)) - 1;
                same("at(" + p + ", " + i + ")", x.at(p, i), m.at(p, i));
                break;
            case 2:
            case 3:
                int q = row();
                int had = m.at(Math.floorMod(p, 6), -1);
                int from = about(had);
                int n = about(Math.max(0, had - Math.floorMod(from, 400)));
                same("copy(" + p + ", " + from + ", " + n + ", " + q + ")",
                        x.copy(p, from, n, q), m.copy(p, from, n, q));
                break;
            default:
                long w = word(style);
                int size = random.nextInt(12) == 0 ? about(9) : 8;
                same("put(" + p + ", " + w + ", " + size + ")", x.put(p, w, size), m.put(p, w, size));
                break;
        }
    }

    private void tables() {
        int t = tab();
        int p = row();
        switch (random.nextInt(9)) {
            case 0:
            case 1:
                int kind = about(4);
                int r = 8 + about(4);
                same("table(" + kind + ", " + r + ")", x.table(kind, r), m.table(kind, r));
                break;
            case 2:
                tellShares(t);
                break;
            case 3:
            case 4:
                same("learn(" + t + ", " + p + ")", x.learn(t, p), m.learn(t, p));
                break;
            case 5:
            case 6:
                int part = about(random.nextInt(3) == 0 ? 3 : 0);
                int sign = random.nextBoolean() ? 96 + random.nextInt(8) : about(255);
                boolean begin = random.nextBoolean();
                same("shares(" + t + ", " + part + ", " + sign + ", " + begin + ")",
                        x.shares(t, part, sign, begin), m.shares(t, part, sign, begin));
                break;
            case 7:
                int of = about(random.nextInt(3) == 0 ? 3 : 0);
                same("cost(" + t + ", " + of + ", " + p + ")", x.cost(t, of, p), m.cost(t, of, p));
                same("told(0)", x.told(0), m.told(0));
                break;
            default:
                int as = about(4);
                same("as(" + t + ", " + as + ")", x.as(t, as), m.as(t, as));
                break;
        }
    }

    /** Often fills a FIXED table up, so that it has a deal. */
    private void tellShares(int t) {
        int sign = random.nextBoolean() ? 96 + random.nextInt(8) : about(255);
        int f = about(1 << (8 + random.nextInt(5)));
        int sum = m.share(t, sign, f);
        same("share(" + t + ", " + sign + ", " + f + ")", x.share(t, sign, f), sum);
        for (int all = 256; sum > 0 && all <= 4096 && random.nextBoolean(); all *= 2) {
            int rest = all - sum;
            int last = 120;
            if (rest >= 0) {
                same("share(" + t + ", " + last + ", " + rest + ")", x.share(t, last, rest), m.share(t, last, rest));
            }
        }
    }

    private void blocks() {
        int t = tab();
        int p = row();
        int lanes = 1 + about(3);
        switch (random.nextInt(10)) {
            case 0:
            case 1:
            case 2:
                same("pack(" + t + ", " + p + ", " + lanes + ")", x.pack(t, p, lanes), m.pack(t, p, lanes));
                same("told(0)", x.told(0), m.told(0));
                break;
            case 3:
                same("ahead(" + t + ", " + p + ", " + lanes + ")", x.ahead(t, p, lanes), m.ahead(t, p, lanes));
                break;
            case 4:
                same("take(" + p + ")", x.take(p), m.take(p));
                break;
            case 5:
                int i = about(m.block(-1)) - 1;
                same("block(" + i + ")", x.block(i), m.block(i));
                break;
            case 6:
                spoil(p);
                break;
            case 7:
                writeBlock(p);
                break;
            case 8:
                if (searched < searches) {
                    searched++;
                    same("search(" + p + ")", x.search(p), m.search(p));
                    wholeBlock();
                }
                break;
            default:
                cutOrAdd(p);
                break;
        }
    }

    private void wholeBlock() {
        int length = m.block(-1);
        x.block(-1);
        for (int i = 0; i < length; i++) {
            DUE.due(run + calls + ": byte " + i, x.block(i), m.block(i));
        }
    }

    /** One byte is changed, the SUM is often mended, and the block taken; then it is changed back. */
    private void spoil(int p) {
        int length = m.block(-1);
        if (length < 14) {
            int i = about(20);
            int mask = about(255);
            same("alter(" + i + ", " + mask + ")", x.alter(i, mask), m.alter(i, mask));
            return;
        }
        int i = random.nextBoolean() ? length - 1 - random.nextInt(Math.min(length, 30)) : random.nextInt(length);
        int mask = random.nextBoolean() ? 1 << random.nextInt(8) : about(255);
        same("alter(" + i + ", " + mask + ")", x.alter(i, mask), m.alter(i, mask));
        if (i < length - 2 && random.nextInt(4) != 0) {
            mendSum(length);
        }
        same("take(" + p + ")", x.take(p), m.take(p));
        if (random.nextInt(3) == 0) {
            same("alter(" + i + ", " + mask + ")", x.alter(i, mask), m.alter(i, mask));
            mendSum(length);
            same("take(" + p + ")", x.take(p), m.take(p));
        }
    }

    private void mendSum(int length) {
        long sum = 0;
        for (int i = 0; i < length - 2; i++) {
            sum += (long) (i + 1) * m.block(i);
        }
        sum %= 65521;
        int high = m.block(length - 2) ^ (int) (sum >> 8);
        int low = m.block(length - 1) ^ (int) (sum & 255);
        same("alter(" + (length - 2) + ", " + high + ")", x.alter(length - 2, high), m.alter(length - 2, high));
        same("alter(" + (length - 1) + ", " + low + ")", x.alter(length - 1, low), m.alter(length - 1, low));
    }

    private void cutOrAdd(int p) {
        int n = random.nextInt(8) == 0 ? -about(400) : about(18) - 9;
        long w = random.nextLong();
        same("more(" + w + ", " + n + ")", x.more(w, n), m.more(w, n));
        same("take(" + p + ")", x.take(p), m.take(p));
    }

    /** A block from its first byte on, each number mostly as told, taken at each number. */
    private void writeBlock(int p) {
        for (int left = m.block(-1); left > 0; left = m.block(-1)) {
            int n = -Math.min(400, left);
            same("more(0, " + n + ")", x.more(0, n), m.more(0, n));
        }
        int kind = about(4);
        int r = 8 + about(4);
        add(kind, 1, p);
        add(r, 1, p);
        int lanes = 1 + about(3);
        add(lanes, 1, p);
        add(random.nextInt(3) == 0 ? random.nextInt(3) : random.nextInt(10) == 0 ? 390 + random.nextInt(20) : 0, 2, p);
        int all = 1 << Math.max(8, Math.min(12, r));
        for (int part = 0; part < (kind == 3 ? 4 : kind == 0 || kind == 2 ? 1 : 0); part++) {
            writeDeal(all, p);
        }
        for (int lane = 0; lane < lanes && lane < 5; lane++) {
            int[] states = {all, all, all, all, all - 1, 256 * all - 1, 256 * all, all + random.nextInt(255 * all)};
            add(states[random.nextInt(8)], 3, p);
        }
        int bytes = random.nextInt(3) == 0 ? random.nextInt(3) : 0;
        add(bytes, 2, p);
        for (int i = 0; i < bytes; i++) {
            add(random.nextInt(256), 1, p);
        }
        add(0, 2, p);
        mendSum(m.block(-1));
        same("take(" + p + ")", x.take(p), m.take(p));
    }

    private void writeDeal(int all, int p) {
        int with = random.nextInt(12) == 0 ? about(256) : 1 + random.nextInt(3);
        add(Math.max(0, Math.min(65535, with)), 2, p);
        int sign = -1;
        int rest = all;
        for (int i = 0; i < with && i < 6; i++) {
            sign = sign + 1 + (random.nextInt(10) == 0 ? -1 : random.nextInt(40));
            add(Math.max(0, Math.min(255, sign)), 1, p);
            int f = i == with - 1 ? rest : 1 + random.nextInt(all / 3);
            f += random.nextInt(15) == 0 ? random.nextInt(5) - 2 : 0;
            rest -= f;
            add((f - 1) & 65535, 2, p);
        }
    }

    private void add(long number, int size, int p) {
        same("more(" + number + ", " + size + ")", x.more(number, size), m.more(number, size));
        if (random.nextInt(3) == 0) {
            same("take(" + p + ")", x.take(p), m.take(p));
        }
    }

    private void steps() {
        switch (random.nextInt(8)) {
            case 0:
            case 1:
            case 2:
                int i = about(random.nextInt(3) == 0 ? 400 : 20);
                int what = about(4);
                same("step(" + i + ", " + what + ")", x.step(i, what), m.step(i, what));
                break;
            case 3:
            case 4:
                int k = about(random.nextBoolean() ? 400 : 12);
                same("mark(" + k + ")", x.mark(k), m.mark(k));
                same("told(4)", x.told(4), m.told(4));
                break;
            case 5:
            case 6:
                int s = about(random.nextInt(3) == 0 ? 400 : 20);
                same("skip(" + s + ")", x.skip(s), m.skip(s));
                same("told(1)", x.told(1), m.told(1));
                break;
            default:
                tellStates();
                break;
        }
    }

    private void tellStates() {
        int many = m.told(3) == 1 ? random.nextInt(30) : random.nextInt(3);
        for (int i = 0; i < many; i++) {
            int before = m.told(6);
            int v = m.step(i, 1);
            int after = m.told(6);
            if (after != before) {
                same("step(" + i + ", 1)", x.step(i, 1), v);
            }
            if (v < 0 || random.nextInt(60) == 0) {
                v = random.nextInt();
            }
            same("tell(" + v + ")", x.tell(v), m.tell(v));
            if (after != before && random.nextBoolean()) {
                break;
            }
        }
        same("told(5)", x.told(5), m.told(5));
        if (random.nextInt(4) != 0) {
            same("check()", x.check(), m.check());
        }
    }

    private void whole() {
        switch (random.nextInt(5)) {
            case 0:
                same("keep()", x.keep(), m.keep());
                break;
            case 1:
                same("back()", x.back(), m.back());
                break;
            default:
                int what = about(6);
                same("told(" + what + ")", x.told(what), m.told(what));
                break;
        }
    }
}
