/** Promises 19 to 23: step, mark, skip, tell, check. */
public final class StepsTest {
    private static final Due DUE = new Due("StepsTest");

    public static void main(String[] args) {
        step();
        stepsOfTaken();
        mark();
        skip();
        skipMixed();
        tell();
        check();
        DUE.end();
    }

    /** FLAT with 256 shares, two lanes: behind each sign its lane has what the next sign of the lane needs. */
    private static BalanceCoder made() {
        BalanceCoder x = new BalanceCoder();
        x.table(1, 8);
        x.put(0, 0x0A0B0C0D0EL, 5);
        x.pack(0, 0, 2);
        return x;
    }

    private static void step() {
        BalanceCoder x = new BalanceCoder();
        DUE.due("step(0, 0) of nothing", x.step(0, 0), -6);
        DUE.due("step(-1, 9) of nothing", x.step(-1, 9), -6);
        x = made();
        int[][] due = {{10, 268, 4, 1, 10}, {11, 269, 3, 1, 11}, {12, 270, 2, 1, 12}, {13, 256, 1, 1, 13},
            {14, 256, 0, 1, 14}};
        for (int i = 0; i < 5; i++) {
            for (int what = 0; what < 5; what++) {
                DUE.due("step(" + i + ", " + what + ")", x.step(i, what), due[i][what]);
            }
        }
        DUE.due("step(5, 0)", x.step(5, 0), -1);
        DUE.due("step(-1, 0)", x.step(-1, 0), -1);
        DUE.due("step(0, 5)", x.step(0, 5), -1);
        DUE.due("step(0, -1)", x.step(0, -1), -1);
        x.clear(0);
        DUE.due("step: the row does not matter", x.step(4, 0), 14);
        x.more(0, -1);
        DUE.due("step: changed", x.step(0, 0), -6);
        x.pack(0, 1, 1);
        DUE.due("step of no sign", x.step(0, 0), -1);
    }

    /** A block that another object made and this one only took has the same steps. */
    private static void stepsOfTaken() {
        for (int kind = 1; kind <= 4; kind++) {
            BalanceCoder maker = new BalanceCoder();
            maker.put(0, 0x7468652063617420L, 8);
            maker.put(0, 0x7361742074686572L, 8);
            maker.put(0, 0x65FF00L, 3);
            maker.table(kind, 9);
            maker.learn(0, 0);
            maker.pack(0, 0, 3);
            BalanceCoder x = new BalanceCoder();
            for (int i = 0; i < maker.block(-1); i++) {
                x.more(maker.block(i), 1);
            }
            DUE.due("taken, kind " + kind, x.take(5), 19);
            for (int i = 0; i < 19; i++) {
                for (int what = 0; what < 5; what++) {
                    DUE.due("taken, kind " + kind + ": step(" + i + ", " + what + ")",
                            x.step(i, what), maker.step(i, what));
                }
                x.tell(maker.step(i, 1));
            }
            DUE.due("taken, kind " + kind + ": check()", x.check(), 0);
        }
    }

    private static void mark() {
        BalanceCoder x = new BalanceCoder();
        DUE.due("mark(0) of nothing", x.mark(0), -6);
        x = made();
        DUE.due("no marks yet", x.told(4), 0);
        DUE.due("mark(0)", x.mark(0), -1);
        DUE.due("mark(401)", x.mark(401), -1);
        DUE.due("mark(-1)", x.mark(-1), -1);
        DUE.due("mark(1)", x.mark(1), 5);
        DUE.due("mark(2)", x.mark(2), 3);
        DUE.due("mark(4)", x.mark(4), 2);
        DUE.due("mark(0) changes nothing", x.mark(0), -1);
        DUE.due("told(4)", x.told(4), 2);
        DUE.due("mark(5)", x.mark(5), 1);
        DUE.due("mark(400)", x.mark(400), 1);
        x.pack(0, 0, 1);
        DUE.due("a new block has none", x.told(4), 0);
        x.mark(1);
        x.pack(0, 1, 1);
        DUE.due("mark of no sign", x.mark(1), 0);
        DUE.due("mark of no sign: skip", x.skip(0), -6);
        x.table(4, 9);
        x.pack(1, 0, 1);
        DUE.due("mark of GROWING", x.mark(1), -3);
        DUE.due("mark of GROWING, BEYOND", x.mark(0), -1);
        DUE.due("mark of GROWING: none", x.told(4), 0);
        x.alter(0, 0);
        DUE.due("mark of GROWING, NONE", x.mark(0), -6);
        x.take(1);
        DUE.due("mark of GROWING, taken", x.mark(1), -3);
    }

    private static void skip() {
        BalanceCoder x = made();
        DUE.due("skip(0) without marks", x.skip(0), -6);
        DUE.due("skip(9) without marks", x.skip(9), -6);
        DUE.due("told(1) at first", x.told(1), 0);
        x.mark(3);
        int[] read = {1, 2, 3, 1, 2};
        for (int i = 4; i >= 0; i--) {
            DUE.due("skip(" + i + ")", x.skip(i), 10 + i);
            DUE.due("skip(" + i + "): read", x.told(1), read[i]);
        }
        x.skip(1);
        DUE.due("skip(5)", x.skip(5), -1);
        DUE.due("skip(-1)", x.skip(-1), -1);
        DUE.due("skip: BEYOND changes nothing", x.told(1), 2);
        x.mark(400);
        DUE.due("skip(4) from the first", x.skip(4), 14);
        DUE.due("skip(4) from the first: read", x.told(1), 5);
        x.alter(0, 0);
        DUE.due("skip of a changed block", x.skip(0), -6);
        DUE.due("skip of a changed block: read", x.told(1), 5);
    }

    private static void skipMixed() {
        BalanceCoder x = new BalanceCoder();
        x.put(0, 0x6D697373697373L, 7);
        x.put(0, 0x69707069L, 4);
        x.table(3, 11);
        x.learn(0, 0);
        x.pack(0, 0, 3);
        for (int k = 1; k <= 12; k++) {
            DUE.due("mark(" + k + ")", x.mark(k), (11 + k - 1) / k);
            for (int i = 0; i < 11; i++) {
                DUE.due("mark " + k + ": skip(" + i + ")", x.skip(i), x.at(0, i));
                DUE.due("mark " + k + ": read to " + i, x.told(1), i % k + 1);
            }
        }
    }

    private static void tell() {
        BalanceCoder x = new BalanceCoder();
        for (int i = 1; i <= 400; i++) {
            DUE.due("tell " + i, x.tell(-i), i);
        }
        DUE.due("tell 401", x.tell(0), -2);
        DUE.due("told(5)", x.told(5), 400);
        DUE.due("check", x.check(), -6);
        DUE.due("told(5) behind it", x.told(5), 0);
        DUE.due("tell anew", x.tell(0), 1);
    }

    private static int checked(BalanceCoder x, int... numbers) {
        for (int v : numbers) {
            x.tell(v);
        }
        return x.check();
    }

    private static void check() {
        BalanceCoder x = made();
        DUE.due("check of all", checked(x, 268, 269, 270, 256, 256), 0);
        DUE.due("told(5)", x.told(5), 0);
        DUE.due("check of none", x.check(), 1);
        DUE.due("check of four", checked(x, 268, 269, 270, 256), 5);
        DUE.due("check of six", checked(x, 268, 269, 270, 256, 256, 256), 6);
        DUE.due("check of seven", checked(x, 268, 269, 270, 256, 256, 256, 1), 6);
        DUE.due("check: first", checked(x, 267, 269, 270, 256, 256), 1);
        DUE.due("check: third", checked(x, 268, 269, 271, 256, 1), 3);
        DUE.due("check: fifth", checked(x, 268, 269, 270, 256, -256, 256), 5);
        x.tell(1);
        x.alter(0, 0);
        DUE.due("check: changed", x.check(), -6);
        DUE.due("check: gone", x.told(5), 0);
        x.pack(0, 1, 1);
        DUE.due("check of no sign", x.check(), 0);
        DUE.due("check of no sign, one told", checked(x, 256), 1);
        DUE.due("findings", x.told(6), 1);
    }
}
