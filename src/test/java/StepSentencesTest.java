/** Promises 19 to 23, sentence by sentence: step, mark, skip, tell, check. */
public final class StepSentencesTest {
    private static final Due DUE = new Due("StepSentencesTest");

    public static void main(String[] args) {
        step();
        markAndSkip();
        tellAndCheck();
        DUE.end();
    }

    private static void step() {
        Part part = Part.promise(DUE, 19);
        part.says("Of sign i of THE BLOCK, when it was made or taken: what = 0 the sign, 1 the state of its lane behind"
                + " taking it, 2 how many bytes are left then, 3 its shares, 4 its begin.",
                StepSentencesTest::steps);
        part.says("NONE: it was not made or taken.", StepSentencesTest::stepNone);
        part.says("BEYOND: no such sign, or another what.", StepSentencesTest::stepBeyond);
        part.end();
    }

    private static void markAndSkip() {
        Part part = Part.promise(DUE, 20);
        part.says("THE BLOCK has MARKS each k signs: how many marks.", StepSentencesTest::mark);
        part.says("NONE: it was not made or taken.", StepSentencesTest::markNone);
        part.says("BEYOND: k is not 1 to 400.", StepSentencesTest::markBeyond);
        part.says("KIND: its table is GROWING.", StepSentencesTest::markKind);
        part.end();
        part = Part.promise(DUE, 21);
        part.says("Sign i is read from the latest mark ahead of it (or at it) on: it; told(1) is how many signs were"
                + " read.", StepSentencesTest::skip);
        part.says("NONE: there are no marks.", StepSentencesTest::skipNone);
        part.says("BEYOND: no such sign.", StepSentencesTest::skipBeyond);
        part.end();
    }

    private static void tellAndCheck() {
        Part part = Part.promise(DUE, 22);
        part.says("One more number waits for check(): how many.", StepSentencesTest::tell);
        part.says("FULL: 400 wait.", StepSentencesTest::tellFull);
        part.end();
        part = Part.promise(DUE, 23);
        part.says("The numbers that wait (none do then) are taken as the states of lanes behind each sign of THE BLOCK,"
                + " in order: 0: they are just these;", StepSentencesTest::checkJustThese);
        part.says("else k + 1 for the first (k from 0) that is not, or is missing;", StepSentencesTest::checkFirst);
        part.says("the number of signs and 1 when there are more.", StepSentencesTest::checkMore);
        part.says("NONE: it was not made or taken (the numbers are gone then, too).", StepSentencesTest::checkNone);
        part.end();
    }

    /** FLAT with 256 shares, so each sign takes a byte: signs 10 to 14 in two lanes. */
    private static BalanceCoder five() {
        BalanceCoder x = new BalanceCoder();
        x.table(1, 8);
        Make.put(x, 0, 10, 11, 12, 13, 14);
        x.pack(0, 0, 2);
        return x;
    }

    /** A row of so many signs, each its place modulo 256, packed by a FLAT table. */
    private static BalanceCoder many(int n) {
        BalanceCoder x = new BalanceCoder();
        x.table(1, 8);
        for (int i = 0; i < n; i++) {
            x.put(0, i, 1);
        }
        x.pack(0, 0, 3);
        return x;
    }

    private static void steps() {
        BalanceCoder x = five();
        int[][] due = {{10, 268, 4, 1, 10}, {11, 269, 3, 1, 11}, {12, 270, 2, 1, 12}, {13, 256, 1, 1, 13},
            {14, 256, 0, 1, 14}};
        for (int round = 0; round < 2; round++) {
            for (int i = 0; i < 5; i++) {
                for (int what = 0; what <= 4; what++) {
                    DUE.due("step(" + i + ", " + what + ")", x.step(i, what), due[i][what]);
                }
            }
            x.alter(0, 0);
            DUE.due("taken", x.take(1), 5);
        }
        BalanceCoder other = new BalanceCoder();
        for (int i = 0; i < x.block(-1); i++) {
            other.more(x.block(i), 1);
        }
        DUE.due("taken by another object", other.take(3), 5);
        for (int i = 0; i < 5; i++) {
            for (int what = 0; what <= 4; what++) {
                DUE.due("another object: step(" + i + ", " + what + ")", other.step(i, what), due[i][what]);
            }
        }
        x = many(400);
        DUE.due("the last of 400: sign", x.step(399, 0), 399 - 256);
        DUE.due("the last of 400: state", x.step(399, 1), 256);
        DUE.due("the last of 400: left", x.step(399, 2), 0);
        DUE.due("the first of 400: left", x.step(0, 2), 399);
        Make.put(x, 1, 0, 255);
        x.search(1);
        DUE.due("a block that was sought: sign", x.step(1, 0), 255);
        DUE.due("a block that was sought: begin", x.step(1, 4), 255);
    }

    private static void stepNone() {
        BalanceCoder x = new BalanceCoder();
        DUE.due("step of no block", x.step(0, 0), -6);
        DUE.due("step of no block, no such sign", x.step(-1, 0), -6);
        DUE.due("step of no block, another what", x.step(0, 5), -6);
        x.more(1, 8);
        DUE.due("step of bytes that were put", x.step(0, 0), -6);
        x.take(0);
        DUE.due("step of bytes that are wrong", x.step(0, 0), -6);
        x = five();
        x.alter(0, 0);
        DUE.due("step of an altered block", x.step(4, 0), -6);
        DUE.due("step of an altered block, no such sign", x.step(5, 0), -6);
    }

    private static void stepBeyond() {
        BalanceCoder x = five();
        for (int i : Make.beside(0, 4)) {
            for (int what = 0; what <= 4; what++) {
                DUE.due("step(" + i + ", " + what + ")", x.step(i, what), -1);
            }
        }
        for (int what : Make.beside(0, 4)) {
            DUE.due("step(0, " + what + ")", x.step(0, what), -1);
        }
        x.pack(0, 1, 1);
        DUE.due("step of a block without signs", x.step(0, 0), -1);
        x = many(400);
        DUE.due("step(400, 0) of 400", x.step(400, 0), -1);
    }

    private static void mark() {
        BalanceCoder x = five();
        int[] due = {5, 3, 2, 2, 1, 1};
        for (int k = 1; k <= 6; k++) {
            DUE.due("mark(" + k + ") of 5 signs", x.mark(k), due[k - 1]);
            DUE.due("mark(" + k + "): told(4)", x.told(4), due[k - 1]);
        }
        DUE.due("mark(400) of 5 signs", x.mark(400), 1);
        x.pack(0, 1, 1);
        DUE.due("mark(1) of no sign", x.mark(1), 0);
        DUE.due("mark(400) of no sign", x.mark(400), 0);
        DUE.due("mark of no sign: told(4)", x.told(4), 0);
        x = many(400);
        DUE.due("mark(1) of 400 signs", x.mark(1), 400);
        DUE.due("mark(399) of 400 signs", x.mark(399), 2);
        DUE.due("mark(400) of 400 signs", x.mark(400), 1);
        x.search(0);
        DUE.due("a new block has none", x.told(4), 0);
    }

    private static void markNone() {
        BalanceCoder x = new BalanceCoder();
        DUE.due("mark(1) of no block", x.mark(1), -6);
        DUE.due("mark(0) of no block", x.mark(0), -6);
        DUE.due("mark(401) of no block", x.mark(401), -6);
        x = five();
        x.more(1, 1);
        DUE.due("mark(1) of a block with one more", x.mark(1), -6);
        x.take(1);
        DUE.due("mark(1) of a wrong block", x.mark(1), -6);
        x.more(0, -1);
        x.take(1);
        DUE.due("mark(1) of a block that was taken", x.mark(1), 5);
        x.table(4, 9);
        x.pack(1, 0, 1);
        x.alter(0, 0);
        DUE.due("mark(1) of an altered GROWING block", x.mark(1), -6);
    }

    private static void markBeyond() {
        BalanceCoder x = five();
        x.mark(2);
        for (int k : Make.beside(1, 400)) {
            DUE.due("mark(" + k + ")", x.mark(k), -1);
        }
        DUE.due("mark: those that are stay", x.told(4), 3);
        x.skip(3);
        DUE.due("mark: those that are stay", x.told(1), 2);
        x.table(4, 8);
        x.pack(1, 0, 1);
        DUE.due("mark(0), ahead of KIND", x.mark(0), -1);
        DUE.due("mark(401), ahead of KIND", x.mark(401), -1);
    }

    private static void markKind() {
        for (int r = 8; r <= 12; r++) {
            BalanceCoder x = new BalanceCoder();
            Make.put(x, 0, 1, 1, 2);
            x.table(4, r);
            x.pack(0, 0, 2);
            DUE.due("mark(1) of GROWING", x.mark(1), -3);
            DUE.due("mark(400) of GROWING", x.mark(400), -3);
            x.take(1);
            DUE.due("mark(1) of GROWING, taken", x.mark(1), -3);
            x.pack(0, 2, 2);
            DUE.due("mark(1) of GROWING, no sign", x.mark(1), -3);
            DUE.due("mark of GROWING: none", x.told(4), 0);
            DUE.due("mark of GROWING: skip", x.skip(0), -6);
        }
        for (int kind = 0; kind <= 3; kind++) {
            BalanceCoder x = new BalanceCoder();
            Make.put(x, 0, 1, 1, 2);
            x.table(kind, 9);
            x.share(0, 1, 500);
            x.share(0, 2, 12);
            x.learn(0, 0);
            x.pack(0, 0, 1);
            DUE.due("mark(1) of kind " + kind, x.mark(1), 3);
        }
    }

    private static void skip() {
        BalanceCoder x = five();
        for (int k = 1; k <= 6; k++) {
            x.mark(k);
            for (int i = 4; i >= 0; i--) {
                DUE.due("marks each " + k + ": skip(" + i + ")", x.skip(i), 10 + i);
                DUE.due("marks each " + k + ": read up to " + i, x.told(1), i - i / k * k + 1);
            }
        }
        x = new BalanceCoder();
        x.table(1, 12);
        Make.fill(x, 0, 8, 399);
        Make.put(x, 0, 9);
        x.pack(0, 0, 4);
        x.mark(400);
        DUE.due("the last of 400, from the first on", x.skip(399), 9);
        DUE.due("the last of 400, from the first on: read", x.told(1), 400);
        x.mark(399);
        DUE.due("the last of 400, from a mark at it", x.skip(399), 9);
        DUE.due("the last of 400, from a mark at it: read", x.told(1), 1);
        DUE.due("the one ahead of a mark", x.skip(398), 8);
        DUE.due("the one ahead of a mark: read", x.told(1), 399);
    }

    private static void skipNone() {
        BalanceCoder x = new BalanceCoder();
        DUE.due("skip of no block", x.skip(0), -6);
        x = five();
        DUE.due("skip without marks", x.skip(0), -6);
        DUE.due("skip without marks, no such sign", x.skip(5), -6);
        DUE.due("skip without marks, no such sign", x.skip(-1), -6);
        x.mark(0);
        DUE.due("skip, marks were refused", x.skip(0), -6);
        x.mark(1);
        x.skip(0);
        x.pack(0, 0, 1);
        DUE.due("skip of a new block", x.skip(0), -6);
        DUE.due("skip of a new block: told(1) stays", x.told(1), 1);
        x.pack(0, 1, 1);
        x.mark(1);
        DUE.due("skip of a block without signs", x.skip(0), -6);
    }

    private static void skipBeyond() {
        BalanceCoder x = five();
        x.mark(3);
        x.skip(2);
        for (int i : Make.beside(0, 4)) {
            DUE.due("skip(" + i + ")", x.skip(i), -1);
        }
        DUE.due("skip, refused: told(1) stays", x.told(1), 3);
    }

    private static void tell() {
        BalanceCoder x = new BalanceCoder();
        int[] numbers = {0, -1, Integer.MIN_VALUE, Integer.MAX_VALUE, 256, 256};
        for (int i = 0; i < numbers.length; i++) {
            DUE.due("tell(" + numbers[i] + ")", x.tell(numbers[i]), i + 1);
            DUE.due("told(5)", x.told(5), i + 1);
        }
        x.check();
        DUE.due("tell, none wait", x.tell(7), 1);
    }

    private static void tellFull() {
        BalanceCoder x = new BalanceCoder();
        for (int i = 1; i <= 399; i++) {
            x.tell(i);
        }
        DUE.due("tell of the 400th", x.tell(400), 400);
        DUE.due("tell of the 401st", x.tell(401), -2);
        DUE.due("tell of the 401st again", x.tell(0), -2);
        DUE.due("400 wait", x.told(5), 400);
        x.check();
        DUE.due("tell behind check()", x.tell(1), 1);
    }

    private static int checked(BalanceCoder x, int... numbers) {
        for (int v : numbers) {
            x.tell(v);
        }
        return x.check();
    }

    private static void checkJustThese() {
        BalanceCoder x = five();
        DUE.due("check of all five", checked(x, 268, 269, 270, 256, 256), 0);
        DUE.due("check: none wait then", x.told(5), 0);
        x.pack(0, 1, 1);
        DUE.due("check of none, of no sign", x.check(), 0);
        x = new BalanceCoder();
        Make.fixed(x, 8, 5, 256);
        Make.fill(x, 0, 5, 400);
        x.pack(0, 0, 4);
        for (int i = 0; i < 400; i++) {
            x.tell(256);
        }
        DUE.due("check of all 400", x.check(), 0);
        DUE.due("check of all 400: none wait then", x.told(5), 0);
    }

    private static void checkFirst() {
        BalanceCoder x = five();
        DUE.due("check of none", x.check(), 1);
        DUE.due("check, the first is not", checked(x, 267, 269, 270, 256, 256), 1);
        DUE.due("check, the first two are not", checked(x, 269, 268, 270, 256, 256), 1);
        DUE.due("check, the last is not", checked(x, 268, 269, 270, 256, 257), 5);
        DUE.due("check, the last is missing", checked(x, 268, 269, 270, 256), 5);
        DUE.due("check, all but the first are missing", checked(x, 268), 2);
        DUE.due("check, one is not and one is missing", checked(x, 268, 269, 0, 256), 3);
        DUE.due("check, high bits do not fit", checked(x, 268 + (1 << 24), 269, 270, 256, 256), 1);
        DUE.due("check: none wait then", x.told(5), 0);
        DUE.due("check: it is no finding", x.told(6), 0);
        x = new BalanceCoder();
        Make.fixed(x, 8, 5, 256);
        Make.fill(x, 0, 5, 400);
        x.pack(0, 0, 1);
        for (int i = 0; i < 399; i++) {
            x.tell(256);
        }
        DUE.due("check of 399 of 400", x.check(), 400);
    }

    private static void checkMore() {
        BalanceCoder x = five();
        DUE.due("check of one more", checked(x, 268, 269, 270, 256, 256, 256), 6);
        DUE.due("check of two more", checked(x, 268, 269, 270, 256, 256, 0, 0), 6);
        DUE.due("check of one more, one is not", checked(x, 268, 269, 271, 256, 256, 256), 3);
        x.pack(0, 1, 1);
        DUE.due("check of one, of no sign", checked(x, 256), 1);
        for (int i = 0; i < 400; i++) {
            x.tell(256);
        }
        DUE.due("check of 400, of no sign", x.check(), 1);
        DUE.due("check: none wait then", x.told(5), 0);
    }

    private static void checkNone() {
        BalanceCoder x = new BalanceCoder();
        DUE.due("check of no block, none wait", x.check(), -6);
        x.tell(256);
        DUE.due("check of no block", x.check(), -6);
        DUE.due("check of no block: the number is gone", x.told(5), 0);
        x = five();
        x.tell(268);
        x.alter(0, 0);
        DUE.due("check of an altered block", x.check(), -6);
        x.take(1);
        DUE.due("check: what was told is gone", checked(x, 268, 269, 270, 256, 256), 0);
    }
}
