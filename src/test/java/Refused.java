import java.util.ArrayList;
import java.util.List;

/** "An act that answers a finding changes nothing, but where told": all that can be asked answers as without the act. */
final class Refused {
    private interface Act {
        long on(BalanceCoder x);
    }

    private Refused() {
    }

    /** Rows: 0 of five signs, 1 full, 2 empty, 3 of signs that tables miss. All tables there can be, of all kinds. */
    private static BalanceCoder busy() {
        BalanceCoder x = new BalanceCoder();
        Make.put(x, 0, 10, 11, 11, 12, 10);
        Make.fill(x, 1, 11, 400);
        Make.put(x, 3, 10, 99, 11, 98, 12);
        Make.fixed(x, 8, 10, 200, 11, 56);
        Make.fixed(x, 9, 10, 100);
        x.table(1, 8);
        for (int kind = 2; kind <= 4; kind++) {
            x.table(kind, 10);
            x.table(kind, 9);
        }
        x.table(1, 12);
        x.learn(3, 0);
        x.learn(5, 0);
        x.pack(0, 0, 1);
        x.pack(3, 0, 2);
        x.mark(2);
        x.skip(3);
        x.tell(7);
        x.tell(8);
        return x;
    }

    private static BalanceCoder busyAndKept() {
        BalanceCoder x = new BalanceCoder();
        Make.put(x, 4, 50);
        x.table(4, 9);
        x.keep();
        return x;
    }

    private static BalanceCoder altered() {
        BalanceCoder x = busy();
        // With r 11 in place of 10 the deal does not reach M: wrong at the last sign's shares, place 14.
        x.alter(1, 1);
        return x;
    }

    private static BalanceCoder grown() {
        BalanceCoder x = busy();
        x.pack(7, 0, 2);
        return x;
    }

    /** Told(6) comes first, as what is asked behind it is refused at times. */
    private static long[] answers(BalanceCoder x) {
        List<Long> answers = new ArrayList<>();
        for (int what = 6; what >= 0; what--) {
            answers.add((long) x.told(what));
        }
        for (int p = 0; p < 6; p++) {
            int n = x.at(p, -1);
            answers.add((long) n);
            answers.add((long) x.at(p, n - 1));
            answers.add((long) x.at(p, n / 2));
        }
        for (int table = 0; table < 10; table++) {
            answers.add((long) x.as(table, 0));
            answers.add((long) x.as(table, 1));
            for (int part = 0; part < 4; part++) {
                answers.add((long) x.shares(table, part, 11, true));
                answers.add((long) x.shares(table, part, 11, false));
            }
        }
        answers.add((long) x.share(1, 11, 7));
        int length = x.block(-1);
        for (int i = -1; i < length; i++) {
            answers.add((long) x.block(i));
        }
        for (int i = 0; i < 6; i++) {
            for (int what = 0; what < 5; what++) {
                answers.add((long) x.step(i, what));
            }
            answers.add((long) x.skip(i));
            answers.add((long) x.told(1));
        }
        answers.add((long) x.tell(9));
        answers.add((long) x.check());
        answers.add((long) x.back());
        answers.add((long) x.at(4, -1));
        answers.add((long) x.told(2));
        return answers.stream().mapToLong(Long::longValue).toArray();
    }

    private static BalanceCoder state(int state) {
        switch (state) {
            case 0: return busy();
            case 1: return altered();
            case 2: return grown();
            default: return busyAndKept();
        }
    }

    /** Where the change that is told stands among the answers: told(5) and told(0). */
    private static final int WAITING = 1;
    private static final int MISSING = 6;

    private static void refused(Due due, int state, String call, int finding, int told, Act act) {
        BalanceCoder without = state(state);
        BalanceCoder with = state(state);
        due.due(call + " in state " + state, act.on(with), finding);
        long[] want = answers(without);
        long[] got = answers(with);
        due.due(call + ": as many answers", got.length, want.length);
        due.due(call + ": told(6)", got[0], want[0] + 1);
        for (int i = 1; i < Math.min(got.length, want.length); i++) {
            boolean isTold = i == told || told == WAITING && i >= got.length - 5;
            if (!isTold) {
                due.due(call + " in state " + state + ": answer " + i + " behind it", got[i], want[i]);
            }
        }
    }

    static void changeNothing(Due due) {
        rows(due);
        tables(due);
        blocks(due);
        steps(due);
        changesThatAreTold(due);
    }

    private static void rows(Due due) {
        for (int state = 0; state < 4; state++) {
            refused(due, state, "put(6, 1, 1)", -1, -1, x -> x.put(6, 1, 1));
            refused(due, state, "put(0, 1, 0)", -1, -1, x -> x.put(0, 1, 0));
            refused(due, state, "put(0, 1, 9)", -1, -1, x -> x.put(0, 1, 9));
            refused(due, state, "clear(-1)", -1, -1, x -> x.clear(-1));
            refused(due, state, "at(0, -2)", -1, -1, x -> x.at(0, -2));
            refused(due, state, "copy(0, 0, 401, 4)", -1, -1, x -> x.copy(0, 0, 401, 4));
            refused(due, state, "copy(0, -1, 1, 4)", -1, -1, x -> x.copy(0, -1, 1, 4));
            refused(due, state, "copy(0, 0, 0, 6)", -1, -1, x -> x.copy(0, 0, 0, 6));
        }
        for (int state = 0; state < 3; state++) {
            refused(due, state, "put(1, 1, 1)", -2, -1, x -> x.put(1, 1, 1));
            refused(due, state, "copy(0, 0, 1, 1)", -2, -1, x -> x.copy(0, 0, 1, 1));
            refused(due, state, "copy(1, 0, 400, 0)", -2, -1, x -> x.copy(1, 0, 400, 0));
        }
    }

    private static void tables(Due due) {
        for (int state = 0; state < 4; state++) {
            refused(due, state, "table(5, 8)", -1, -1, x -> x.table(5, 8));
            refused(due, state, "table(1, 13)", -1, -1, x -> x.table(1, 13));
            refused(due, state, "share(10, 1, 1)", -1, -1, x -> x.share(10, 1, 1));
            refused(due, state, "learn(10, 0)", -1, -1, x -> x.learn(10, 0));
            refused(due, state, "shares(10, 0, 1, true)", -1, -1, x -> x.shares(10, 0, 1, true));
            refused(due, state, "cost(10, 0, 0)", -1, -1, x -> x.cost(10, 0, 0));
            refused(due, state, "as(10, 0)", -1, -1, x -> x.as(10, 0));
        }
        for (int state = 0; state < 3; state++) {
            refused(due, state, "table(2, 8)", -2, -1, x -> x.table(2, 8));
            refused(due, state, "share(0, 256, 1)", -1, -1, x -> x.share(0, 256, 1));
            refused(due, state, "share(0, 11, 57)", -2, -1, x -> x.share(0, 11, 57));
            refused(due, state, "share(0, 11, 257)", -1, -1, x -> x.share(0, 11, 257));
            refused(due, state, "share(3, 11, 1)", -3, -1, x -> x.share(3, 11, 1));
            refused(due, state, "learn(0, 0)", -3, -1, x -> x.learn(0, 0));
            refused(due, state, "learn(3, 2)", -7, -1, x -> x.learn(3, 2));
            refused(due, state, "learn(5, 2)", -7, -1, x -> x.learn(5, 2));
            refused(due, state, "learn(4, 6)", -1, -1, x -> x.learn(4, 6));
            refused(due, state, "shares(1, 0, 1, true)", -4, -1, x -> x.shares(1, 0, 1, true));
            refused(due, state, "cost(4, 0, 0)", -4, -1, x -> x.cost(4, 0, 0));
            refused(due, state, "as(0, 1)", -3, -1, x -> x.as(0, 1));
        }
    }

    private static void blocks(Due due) {
        for (int state = 0; state < 4; state++) {
            refused(due, state, "pack(10, 0, 1)", -1, -1, x -> x.pack(10, 0, 1));
            refused(due, state, "pack(0, 6, 1)", -1, -1, x -> x.pack(0, 6, 1));
            refused(due, state, "pack(0, 0, 5)", -1, -1, x -> x.pack(0, 0, 5));
            refused(due, state, "ahead(0, 0, 0)", -1, -1, x -> x.ahead(0, 0, 0));
            refused(due, state, "take(6)", -1, -1, x -> x.take(6));
            refused(due, state, "block(-2)", -1, -1, x -> x.block(-2));
            refused(due, state, "alter(-1, 1)", -1, -1, x -> x.alter(-1, 1));
            refused(due, state, "alter(0, 256)", -1, -1, x -> x.alter(0, 256));
            refused(due, state, "more(1, 0)", -1, -1, x -> x.more(1, 0));
            refused(due, state, "more(1, 9)", -1, -1, x -> x.more(1, 9));
            refused(due, state, "more(1, -400)", -1, -1, x -> x.more(1, -400));
            refused(due, state, "search(6)", -1, -1, x -> x.search(6));
            refused(due, state, "search(2)", -7, -1, x -> x.search(2));
        }
        for (int state = 0; state < 3; state++) {
            refused(due, state, "pack(1, 0, 1)", -4, -1, x -> x.pack(1, 0, 1));
            refused(due, state, "ahead(6, 0, 1)", -4, -1, x -> x.ahead(6, 0, 1));
        }
        refused(due, 1, "take(0)", -114, -1, x -> x.take(0));
        refused(due, 3, "take(0)", -100, -1, x -> x.take(0));
    }

    private static void steps(Due due) {
        for (int state : new int[] {0, 2}) {
            refused(due, state, "step(5, 0)", -1, -1, x -> x.step(5, 0));
            refused(due, state, "step(0, 5)", -1, -1, x -> x.step(0, 5));
            refused(due, state, "mark(0)", -1, -1, x -> x.mark(0));
            refused(due, state, "mark(401)", -1, -1, x -> x.mark(401));
            refused(due, state, "back()", -6, -1, BalanceCoder::back);
        }
        refused(due, 0, "skip(5)", -1, -1, x -> x.skip(5));
        refused(due, 2, "skip(0)", -6, -1, x -> x.skip(0));
        refused(due, 2, "mark(1)", -3, -1, x -> x.mark(1));
        for (int state : new int[] {1, 3}) {
            refused(due, state, "step(0, 0)", -6, -1, x -> x.step(0, 0));
            refused(due, state, "mark(1)", -6, -1, x -> x.mark(1));
            refused(due, state, "skip(0)", -6, -1, x -> x.skip(0));
        }
        for (int state = 0; state < 4; state++) {
            refused(due, state, "told(7)", -1, -1, x -> x.told(7));
        }
        BalanceCoder x = new BalanceCoder();
        for (int i = 0; i < 400; i++) {
            x.tell(i);
        }
        due.due("tell() of the 401st", x.tell(256), -2);
        due.due("tell() of the 401st: none comes", x.told(5), 400);
    }

    private static void changesThatAreTold(Due due) {
        for (int state = 0; state < 3; state++) {
            refused(due, state, "pack(0, 3, 1)", -5, MISSING, x -> x.pack(0, 3, 1));
            refused(due, state, "ahead(3, 3, 4)", -5, MISSING, x -> x.ahead(3, 3, 4));
            refused(due, state, "cost(0, 0, 3)", -5, MISSING, x -> x.cost(0, 0, 3));
        }
        refused(due, 1, "check()", -6, WAITING, BalanceCoder::check);
        refused(due, 3, "check()", -6, WAITING, BalanceCoder::check);
    }
}
