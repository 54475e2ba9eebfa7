/** Promises 24 to 26: keep, back, told. */
public final class WholeTest {
    private static final Due DUE = new Due("WholeTest");

    public static void main(String[] args) {
        keepAndBack();
        tablesOfBack();
        told();
        DUE.end();
    }

    private static BalanceCoder rich() {
        BalanceCoder x = new BalanceCoder();
        x.put(0, 0x6162726163L, 5);
        x.table(2, 8);
        x.learn(0, 0);
        x.table(0, 8);
        x.share(1, 97, 256);
        x.pack(0, 0, 2);
        x.mark(2);
        x.skip(3);
        x.pack(1, 0, 1);
        return x;
    }

    private static void keepAndBack() {
        BalanceCoder x = rich();
        DUE.due("back() of nothing", x.back(), -6);
        DUE.due("told(6)", x.told(6), 2);
        x.tell(5);
        DUE.due("keep()", x.keep(), 1);
        int length = x.block(-1);
        int share = x.shares(0, 0, 97, false);
        x.tell(6);
        x.clear(0);
        x.put(0, 0x7A7A7A7A7A7AL, 6);
        x.put(5, 1, 1);
        x.learn(0, 0);
        x.share(1, 97, 1);
        x.table(1, 8);
        x.pack(0, 0, 1);
        x.mark(1);
        x.skip(0);
        x.pack(1, 0, 1);
        x.put(0, 1, 1);
        DUE.due("pack(0, 0, 1)", x.pack(0, 0, 1), -5);
        DUE.due("told(0) then", x.told(0), 6);
        x.alter(0, 1);
        int findings = x.told(6);
        for (int round = 0; round < 2; round++) {
            DUE.due("back()", x.back(), 1);
            DUE.due("back: row 0", x.at(0, -1), 5);
            DUE.due("back: row 0", x.at(0, 4), 0x63);
            DUE.due("back: row 5", x.at(5, -1), 0);
            DUE.due("back: tables", x.told(2), 2);
            DUE.due("back: learnt", x.shares(0, 0, 97, false), share);
            DUE.due("back: told", x.shares(1, 0, 97, false), 256);
            DUE.due("back: block", x.block(-1), length);
            DUE.due("back: kind", x.block(0), 2);
            DUE.due("back: made", x.told(3), 1);
            DUE.due("back: marks", x.told(4), 3);
            DUE.due("back: steps", x.step(4, 0), 0x63);
            DUE.due("back: missing", x.told(0), 4);
            DUE.due("back: read", x.told(1), 2);
            DUE.due("back: numbers that wait stay", x.told(5), 2);
            DUE.due("back: findings go on", x.told(6), findings);
            x.skip(0);
            x.clear(0);
            x.more(0, -3);
            x.share(1, 97, 0);
        }
        DUE.due("keep() in place of it", x.keep(), 1);
        x.put(0, 0x11L, 1);
        x.back();
        DUE.due("back: row 0 as kept last", x.at(0, -1), 0);
        DUE.due("back: not made", x.told(3), 0);
        DUE.due("check: gone", x.check(), -6);
        x.back();
        DUE.due("back: none wait", x.told(5), 0);
    }

    /** A table made behind back() has nothing of one that had its number. */
    private static void tablesOfBack() {
        BalanceCoder x = new BalanceCoder();
        x.keep();
        x.put(0, 0x0102L, 2);
        x.table(3, 12);
        x.learn(0, 0);
        x.back();
        DUE.due("no table", x.told(2), 0);
        DUE.due("no table", x.as(0, 3), -1);
        DUE.due("table", x.table(2, 8), 0);
        DUE.due("it is open", x.shares(0, 0, 1, false), -4);
        x.back();
        DUE.due("table", x.table(0, 8), 0);
        DUE.due("it has no shares", x.share(0, 9, 3), 3);
        x.back();
        DUE.due("table", x.table(4, 9), 0);
        DUE.due("it is FLAT", x.shares(0, 0, 9, true), 18);
    }

    private static void told() {
        BalanceCoder x = new BalanceCoder();
        DUE.due("told(-1)", x.told(-1), -1);
        DUE.due("told(7)", x.told(7), -1);
        DUE.due("told(6) counts them", x.told(6), 2);
        DUE.due("told(6) is no finding", x.told(6), 2);
        x.put(9, 0, 1);
        x.clear(9);
        x.at(9, 0);
        x.copy(9, 0, 0, 0);
        x.table(9, 8);
        x.share(0, 0, 0);
        x.learn(0, 0);
        x.shares(0, 0, 0, true);
        x.cost(0, 0, 0);
        x.as(0, 0);
        x.pack(0, 0, 1);
        x.ahead(0, 0, 1);
        x.take(0);
        x.block(0);
        x.alter(0, 0);
        x.more(0, 0);
        x.search(0);
        x.step(0, 0);
        x.mark(1);
        x.skip(0);
        x.check();
        x.back();
        DUE.due("told(6) counts each act", x.told(6), 24);
        for (int i = 0; i < 401; i++) {
            x.tell(i);
        }
        DUE.due("told(5)", x.told(5), 400);
        DUE.due("told(6) counts tell", x.told(6), 25);
        DUE.due("keep is none", x.keep(), 1);
        x.back();
        DUE.due("told(6) goes on", x.told(6), 25);
        x = rich();
        DUE.due("told(0)", x.told(0), 4);
        DUE.due("told(1)", x.told(1), 2);
        DUE.due("told(2)", x.told(2), 2);
        DUE.due("told(3)", x.told(3), 1);
        DUE.due("told(4)", x.told(4), 3);
        DUE.due("told(5)", x.told(5), 0);
        DUE.due("told(6)", x.told(6), 1);
    }
}
