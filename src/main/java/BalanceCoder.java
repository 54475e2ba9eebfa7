import java.util.Arrays;

/**
 * A coder that packs rows of signs as near to their odds as whole numbers allow: shares are dealt to signs at the
 * least cost, signs are packed by states that take turns in lanes, read backward as they were written, from any mark
 * on; sizes are told ahead, blocks are taken only if they can be right, and the best way to pack is sought among all.
 */
public final class BalanceCoder {
    private static final int BEYOND = -1;
    private static final int FULL = -2;
    private static final int KIND = -3;
    private static final int OPEN = -4;
    private static final int MISSING = -5;
    private static final int NONE = -6;
    private static final int NOUGHT = -7;
    private static final int WRONG = -100;

    private static final int FIXED = 0;
    private static final int FLAT = 1;
    private static final int LEARNT = 2;
    private static final int MIXED = 3;
    private static final int GROWING = 4;

    private static final int SIGNS = 256;
    private static final int ROWS = 6;
    private static final int ROW_LIMIT = 400;
    private static final int TABLE_LIMIT = 10;
    private static final int PARTS = 4;
    private static final int ANY_PART = -1;
    private static final int LEAST_R = 8;
    private static final int MOST_R = 12;
    private static final int MOST_LANES = 4;
    private static final int BLOCK_LIMIT = 4400;
    private static final int WORD_BYTES = 8;
    private static final int CUT_LIMIT = 400;
    private static final int WAIT_LIMIT = 400;
    private static final int SUM_MODULUS = 65521;
    private static final int COST_UNIT = 1000000;

    /** Above half of the highest gain that a share can bring, which is 400 counts times COST_UNIT. */
    private static final int HIGHEST_GAIN_BIT = 1 << 28;

    /** A state is below 2 to the 20 and above 0, so two bytes always bring it within its bounds. */
    private static final int MOST_SHIFTS = 2;

    private final Whole now = new Whole();
    private Whole kept = null;
    private final Bench bench = new Bench();
    private final Dealer dealer = new Dealer();
    private final Reader reader = new Reader();
    private final int[] waiting = new int[WAIT_LIMIT];
    private int waits = 0;
    private int findings = 0;

    public BalanceCoder() {
    }

    // ---- rows

    public int put(int p, long w, int n) {
        Row row = rowOf(p);
        if (row == null || n < 1 || n > WORD_BYTES) {
            return found(BEYOND);
        }
        if (n > ROW_LIMIT - row.count) {
            return found(FULL);
        }
        for (int i = n - 1; i >= 0; i--) {
            row.append(byteOf(w, i));
        }
        return row.count;
    }

    public int clear(int p) {
        Row row = rowOf(p);
        if (row == null) {
            return found(BEYOND);
        }
        int had = row.count;
        row.count = 0;
        return had;
    }

    public int at(int p, int i) {
        Row row = rowOf(p);
        if (row == null || i < -1 || i >= row.count) {
            return found(BEYOND);
        }
        return i == -1 ? row.count : row.signs[i];
    }

    public int copy(int p, int from, int n, int q) {
        Row source = rowOf(p);
        Row target = rowOf(q);
        if (source == null || target == null || from < 0 || n < 0 || n > source.count || from > source.count - n) {
            return found(BEYOND);
        }
        if (n > ROW_LIMIT - target.count) {
            return found(FULL);
        }
        // What is appended stands behind all that is read, so a row may be copied behind itself.
        for (int i = 0; i < n; i++) {
            target.append(source.signs[from + i]);
        }
        return target.count;
    }

    // ---- tables

    public int table(int kind, int r) {
        if (!isKind(kind) || r < LEAST_R || r > MOST_R) {
            return found(BEYOND);
        }
        if (now.tableCount >= TABLE_LIMIT) {
            return found(FULL);
        }
        int number = now.tableCount;
        now.tableSlot(number).begin(kind, r);
        now.tableCount = number + 1;
        return number;
    }

    public int share(int table, int sign, int f) {
        Table fixed = tableOf(table);
        if (fixed == null) {
            return found(BEYOND);
        }
        if (fixed.kind != FIXED) {
            return found(KIND);
        }
        if (!isSign(sign) || f < 0 || f > fixed.all()) {
            return found(BEYOND);
        }
        Deal deal = fixed.deals[0];
        if (deal.total() - deal.sharesOf(sign) + f > fixed.all()) {
            return found(FULL);
        }
        deal.setShares(sign, f);
        return deal.total();
    }

    public int learn(int table, int p) {
        Table learner = tableOf(table);
        Row row = rowOf(p);
        if (learner == null || row == null) {
            return found(BEYOND);
        }
        if (!learner.canLearn()) {
            return found(KIND);
        }
        if (row.count == 0) {
            return found(NOUGHT);
        }
        dealer.teach(learner, row);
        return 0;
    }

    public int shares(int table, int part, int sign, boolean begin) {
        Table asked = tableOf(table);
        if (asked == null || !asked.hasPart(part) || !isSign(sign)) {
            return found(BEYOND);
        }
        if (asked.isOpen()) {
            return found(OPEN);
        }
        Deal deal = asked.deals[part];
        return begin ? deal.begins[sign] : deal.sharesOf(sign);
    }

    public long cost(int table, int part, int p) {
        Table asked = tableOf(table);
        Row row = rowOf(p);
        if (asked == null || !asked.hasPart(part) || row == null) {
            return found(BEYOND);
        }
        if (asked.isOpen()) {
            return found(OPEN);
        }
        Deal deal = asked.deals[part];
        int place = deal.firstWithout(row);
        if (place >= 0) {
            return foundMissing(place);
        }
        return dealer.costOf(deal, asked.all(), row);
    }

    public int as(int table, int kind) {
        Table asked = tableOf(table);
        if (asked == null || !isKind(kind)) {
            return found(BEYOND);
        }
        return asked.isOneOf(kind) ? table : found(KIND);
    }

    // ---- blocks

    public int pack(int table, int p, int lanes) {
        Table packer = tableOf(table);
        int size = tryPacking(packer, rowOf(p), lanes);
        if (size >= 0 && packer != null) {
            now.block.fill(packer, bench, lanes);
        }
        return size;
    }

    public int ahead(int table, int p, int lanes) {
        return tryPacking(tableOf(table), rowOf(p), lanes);
    }

    public int take(int p) {
        Row row = rowOf(p);
        if (row == null) {
            return found(BEYOND);
        }
        int wrong = reader.firstWrong(now.block, bench);
        if (wrong >= 0) {
            return found(WRONG - wrong);
        }
        now.block.confirm(bench.steps);
        row.become(bench.steps);
        return row.count;
    }

    public int block(int i) {
        Block block = now.block;
        if (i < -1 || i >= block.length) {
            return found(BEYOND);
        }
        return i == -1 ? block.length : block.bytes[i];
    }

    public int alter(int i, int mask) {
        Block block = now.block;
        if (i < 0 || i >= block.length || mask < 0 || mask > 255) {
            return found(BEYOND);
        }
        block.bytes[i] ^= mask;
        block.doubt();
        return block.bytes[i];
    }

    public int more(long w, int n) {
        Block block = now.block;
        if (n < -CUT_LIMIT || n == 0 || n > WORD_BYTES || n < -block.length) {
            return found(BEYOND);
        }
        if (n > BLOCK_LIMIT - block.length) {
            return found(FULL);
        }
        if (n < 0) {
            block.length += n;
        }
        for (int i = n - 1; i >= 0; i--) {
            block.append(byteOf(w, i), 1);
        }
        block.doubt();
        return block.length;
    }

    public int search(int p) {
        Row row = rowOf(p);
        if (row == null) {
            return found(BEYOND);
        }
        if (row.count == 0) {
            return found(NOUGHT);
        }
        int way = shortestWay(row);
        int r = way % 1000 / 10;
        int lanes = way % 10;
        planTrial(way / 1000, r, row);
        bench.packSigns(1 << r, lanes);
        now.block.fill(bench.trial, bench, lanes);
        return way;
    }

    // ---- steps, marks

    public int step(int i, int what) {
        Block block = now.block;
        if (!block.made) {
            return found(NONE);
        }
        Steps steps = block.steps;
        if (i < 0 || i >= steps.count) {
            return found(BEYOND);
        }
        switch (what) {
            case 0:
                return steps.signs[i];
            case 1:
                return steps.states[i];
            case 2:
                return steps.lefts[i];
            case 3:
                return steps.shares[i];
            case 4:
                return steps.begins[i];
            default:
                return found(BEYOND);
        }
    }

    public int mark(int k) {
        Block block = now.block;
        if (!block.made) {
            return found(NONE);
        }
        if (k < 1 || k > ROW_LIMIT) {
            return found(BEYOND);
        }
        if (block.bytes[0] == GROWING) {
            return found(KIND);
        }
        block.markEvery = k;
        return block.markCount();
    }

    public int skip(int i) {
        Block block = now.block;
        int every = block.markEvery;
        if (every < 1 || block.markCount() == 0) {
            return found(NONE);
        }
        if (i < 0 || i >= block.steps.count) {
            return found(BEYOND);
        }
        // A block with marks is RIGHT, so reading on from a mark finds just the sign that the steps hold.
        now.lastRead = i % every + 1;
        return block.steps.signs[i];
    }

    public int tell(int v) {
        if (waits >= WAIT_LIMIT) {
            return found(FULL);
        }
        waiting[waits] = v;
        waits++;
        return waits;
    }

    public int check() {
        int numbers = waits;
        waits = 0;
        Block block = now.block;
        if (!block.made) {
            return found(NONE);
        }
        Steps steps = block.steps;
        for (int k = 0; k < steps.count; k++) {
            if (k >= numbers || waiting[k] != steps.states[k]) {
                return k + 1;
            }
        }
        return numbers > steps.count ? steps.count + 1 : 0;
    }

    // ---- the whole

    public int keep() {
        if (kept == null) {
            kept = new Whole();
        }
        kept.become(now);
        return 1;
    }

    public int back() {
        if (kept == null) {
            return found(NONE);
        }
        now.become(kept);
        return 1;
    }

    public int told(int what) {
        switch (what) {
            case 0:
                return now.lastMissing;
            case 1:
                return now.lastRead;
            case 2:
                return now.tableCount;
            case 3:
                return now.block.made ? 1 : 0;
            case 4:
                return now.block.markCount();
            case 5:
                return waits;
            case 6:
                return findings;
            default:
                return found(BEYOND);
        }
    }

    // ---- what the acts share

    private int found(int finding) {
        findings++;
        return finding;
    }

    private int foundMissing(int place) {
        now.lastMissing = place;
        return found(MISSING);
    }

    private Row rowOf(int p) {
        return p < 0 || p >= ROWS ? null : now.rows[p];
    }

    private Table tableOf(int table) {
        return table < 0 || table >= now.tableCount ? null : now.tables[table];
    }

    private static boolean isKind(int kind) {
        return kind >= FIXED && kind <= GROWING;
    }

    private static boolean isSign(int sign) {
        return sign >= 0 && sign < SIGNS;
    }

    /** Byte i of a word, counted from its lowest one. */
    private static int byteOf(long w, int i) {
        return (int) (w >>> (8 * i)) & 255;
    }

    /** Which deal of a MIXED table counts behind a sign. */
    private static int partBehind(int sign) {
        return sign & (PARTS - 1);
    }

    /** Packs on the bench alone: the size of the block, or a finding. */
    private int tryPacking(Table packer, Row row, int lanes) {
        if (packer == null || row == null || lanes < 1 || lanes > MOST_LANES) {
            return found(BEYOND);
        }
        if (packer.isOpen()) {
            return found(OPEN);
        }
        int place = bench.plan(packer, row);
        if (place >= 0) {
            return foundMissing(place);
        }
        bench.packSigns(packer.all(), lanes);
        return bench.blockSize(packer.toldSize(), lanes);
    }

    /** The first way to pack a row with the fewest bytes: 1000 times the kind, 10 times r, and the lanes. */
    private int shortestWay(Row row) {
        int shortest = 0;
        int fewest = BLOCK_LIMIT + 1;
        for (int kind = FLAT; kind <= GROWING; kind++) {
            for (int r = LEAST_R; r <= MOST_R; r++) {
                planTrial(kind, r, row);
                int toldSize = bench.trial.toldSize();
                for (int lanes = 1; lanes <= MOST_LANES; lanes++) {
                    bench.packSigns(1 << r, lanes);
                    int size = bench.blockSize(toldSize, lanes);
                    if (size < fewest) {
                        fewest = size;
                        shortest = 1000 * kind + 10 * r + lanes;
                    }
                }
            }
        }
        return shortest;
    }

    private void planTrial(int kind, int r, Row row) {
        bench.trial.begin(kind, r);
        if (bench.trial.canLearn()) {
            dealer.teach(bench.trial, row);
        }
        bench.plan(bench.trial, row);
    }

    /** A row of signs. */
    private static final class Row {
        private final int[] signs = new int[ROW_LIMIT];
        private int count = 0;

        void append(int sign) {
            if (count < ROW_LIMIT) {
                signs[count] = sign;
                count++;
            }
        }

        void become(Row other) {
            System.arraycopy(other.signs, 0, signs, 0, other.count);
            count = other.count;
        }

        void become(Steps steps) {
            System.arraycopy(steps.signs, 0, signs, 0, steps.count);
            count = steps.count;
        }
    }

    /** How many shares each sign has. */
    private static final class Deal {
        /** A sign's shares are the next one's begin less its own, so one row tells both. */
        private final int[] begins = new int[SIGNS + 1];

        int sharesOf(int sign) {
            return begins[sign + 1] - begins[sign];
        }

        int total() {
            return begins[SIGNS];
        }

        int signsWithShares() {
            int with = 0;
            for (int sign = 0; sign < SIGNS; sign++) {
                if (sharesOf(sign) > 0) {
                    with++;
                }
            }
            return with;
        }

        /** The first place of a row whose sign has no shares, or -1. */
        int firstWithout(Row row) {
            for (int i = 0; i < row.count; i++) {
                if (sharesOf(row.signs[i]) == 0) {
                    return i;
                }
            }
            return -1;
        }

        void become(Deal other) {
            System.arraycopy(other.begins, 0, begins, 0, SIGNS + 1);
        }

        void makeEmpty() {
            Arrays.fill(begins, 0);
        }

        void makeFlat(int all) {
            int each = all / SIGNS;
            for (int sign = 0; sign <= SIGNS; sign++) {
                begins[sign] = sign * each;
            }
        }

        void setShares(int sign, int shares) {
            raise(sign, SIGNS, shares - sharesOf(sign));
        }

        /** Of an empty deal: the shares count when sumUp() ends the dealing, so that a full one takes one pass. */
        void noteShares(int sign, int shares) {
            begins[sign + 1] = shares;
        }

        void sumUp() {
            for (int sign = 0; sign < SIGNS; sign++) {
                begins[sign + 1] += begins[sign];
            }
        }

        /** Begins behind one sign, up to that of another, are changed. */
        private void raise(int behind, int upTo, int by) {
            for (int sign = behind + 1; sign <= upTo; sign++) {
                begins[sign] += by;
            }
        }

        /** The highest begin that is not above the slot: signs without shares share theirs with a sign above them. */
        int signAt(int slot) {
            int sign = 0;
            for (int leap = SIGNS / 2; leap > 0; leap >>= 1) {
                if (begins[sign + leap] <= slot) {
                    sign += leap;
                }
            }
            return sign;
        }

        void growBehind(int sign) {
            int giver = richestBut(sign);
            if (giver < 0) {
                return;
            }
            if (giver < sign) {
                raise(giver, sign, -1);
            } else {
                raise(sign, giver, 1);
            }
        }

        /** The lowest of the signs with the most shares but this one, or -1 if that has but 1. */
        private int richestBut(int sign) {
            int richest = -1;
            int most = 1;
            int begin = begins[0];
            for (int other = 0; other < SIGNS; other++) {
                int end = begins[other + 1];
                if (end - begin > most && other != sign) {
                    most = end - begin;
                    richest = other;
                }
                begin = end;
            }
            return richest;
        }
    }

    /** A kind, a number of shares, and the deals of them. */
    private static final class Table {
        private final Deal[] deals = new Deal[PARTS];
        private int kind = FLAT;
        private int r = LEAST_R;

        Table() {
            for (int part = 0; part < PARTS; part++) {
                deals[part] = new Deal();
            }
        }

        void begin(int newKind, int newR) {
            kind = newKind;
            r = newR;
            for (int part = 0; part < PARTS; part++) {
                if (kind == FLAT || kind == GROWING) {
                    deals[part].makeFlat(all());
                } else {
                    deals[part].makeEmpty();
                }
            }
        }

        void become(Table other) {
            kind = other.kind;
            r = other.r;
            for (int part = 0; part < PARTS; part++) {
                deals[part].become(other.deals[part]);
            }
        }

        int all() {
            return 1 << r;
        }

        int parts() {
            return kind == MIXED ? PARTS : 1;
        }

        boolean hasPart(int part) {
            return part >= 0 && part < parts();
        }

        /** A deal that has not all shares is none yet; the four of a MIXED table come at once. */
        boolean isOpen() {
            return deals[0].total() != all();
        }

        boolean canLearn() {
            return kind == LEARNT || kind == MIXED;
        }

        boolean isOneOf(int asked) {
            return asked == kind || asked == LEARNT && kind == MIXED || asked == FIXED && canLearn();
        }

        /** Whether its blocks tell its deals: those of other kinds are known without. */
        boolean isTold() {
            return kind == FIXED || canLearn();
        }

        /** How many bytes of a block its deals take. */
        int toldSize() {
            int size = 0;
            for (int part = 0; part < parts() && isTold(); part++) {
                size += 2 + 3 * deals[part].signsWithShares();
            }
            return size;
        }
    }

    /** Counts the signs of a row and deals shares by the counts. */
    private static final class Dealer {
        private final int[] counts = new int[SIGNS];
        /** The signs that have a count, from the lowest on. */
        private final int[] counted = new int[SIGNS];
        private int countedSigns = 0;
        /** At k the sum of COST_UNIT / j for j below k; made by the first cost(), as many objects never need it. */
        private int[] costSums = null;

        void teach(Table table, Row row) {
            for (int part = 0; part < table.parts(); part++) {
                countSigns(row, table.kind == MIXED ? part : ANY_PART);
                dealByCounts(table.deals[part], table.all());
            }
        }

        private void countSigns(Row row, int part) {
            Arrays.fill(counts, 0);
            int before = 0;
            for (int i = 0; i < row.count; i++) {
                int sign = row.signs[i];
                if (part == ANY_PART || part == partBehind(before)) {
                    counts[sign]++;
                }
                before = sign;
            }
            listCounted();
        }

        private void listCounted() {
            countedSigns = 0;
            for (int sign = 0; sign < SIGNS; sign++) {
                if (counts[sign] > 0) {
                    counted[countedSigns] = sign;
                    countedSigns++;
                }
            }
        }

        /**
         * A sign's share k + 1 lessens the cost by its count times COST_UNIT / k, never more than the one ahead did: so
         * the cost is least when shares go by the highest gains, down to the gain at which all are wanted.
         */
        private void dealByCounts(Deal deal, int all) {
            if (countedSigns == 0) {
                deal.makeFlat(all);
                return;
            }
            int gain = 0;
            for (int bit = HIGHEST_GAIN_BIT; bit > 0; bit >>= 1) {
                if (wantedByAll(gain + bit, all) >= all) {
                    gain += bit;
                }
            }
            dealDownTo(gain, all - wantedByAll(gain + 1, all), deal, all);
        }

        /** All higher gains first; then, for so many that are left, those that are just this one. */
        private void dealDownTo(int gain, int left, Deal deal, int all) {
            int rest = left;
            deal.makeEmpty();
            for (int i = 0; i < countedSigns; i++) {
                int sign = counted[i];
                int sure = wanted(sign, gain + 1, all);
                // Shares that gain alike go to the lowest signs, as far as they last.
                int extra = Math.min(rest, wanted(sign, gain, all) - sure);
                rest -= extra;
                deal.noteShares(sign, sure + extra);
            }
            deal.sumUp();
        }

        private int wantedByAll(int gain, int all) {
            int wanted = 0;
            for (int i = 0; i < countedSigns; i++) {
                wanted += wanted(counted[i], gain, all);
            }
            return wanted;
        }

        /** How many shares of a sign gain so much at least; its first one is a must. */
        private int wanted(int sign, int gain, int all) {
            int count = counts[sign];
            if (count < 1) {
                return 0;
            }
            int needed = Math.max(1, (gain + count - 1) / count);
            return 1 + Math.min(all - 1, COST_UNIT / needed);
        }

        long costOf(Deal deal, int all, Row row) {
            int[] sums = sums();
            long cost = 0;
            for (int i = 0; i < row.count; i++) {
                cost += sums[all] - sums[deal.sharesOf(row.signs[i])];
            }
            return cost;
        }

        private int[] sums() {
            if (costSums == null) {
                int most = 1 << MOST_R;
                costSums = new int[most + 1];
                for (int k = 1; k < most; k++) {
                    costSums[k + 1] = costSums[k] + COST_UNIT / k;
                }
            }
            return costSums;
        }
    }

    /** Goes along a row, sign by sign, with the deal that counts for each. */
    private static final class Guide {
        private final Deal growing = new Deal();
        private int before = 0;

        void begin(Table table) {
            before = 0;
            if (table.kind == GROWING) {
                growing.makeFlat(table.all());
            }
        }

        Deal dealOf(Table table) {
            if (table.kind == GROWING) {
                return growing;
            }
            return table.deals[table.kind == MIXED ? partBehind(before) : 0];
        }

        void pass(Table table, int sign) {
            before = sign;
            if (table.kind == GROWING) {
                growing.growBehind(sign);
            }
        }
    }

    /** Each sign of a block: its shares and begin, and the state of its lane and the bytes left behind taking it. */
    private static final class Steps {
        private final int[] signs = new int[ROW_LIMIT];
        private final int[] states = new int[ROW_LIMIT];
        private final int[] lefts = new int[ROW_LIMIT];
        private final int[] shares = new int[ROW_LIMIT];
        private final int[] begins = new int[ROW_LIMIT];
        private int count = 0;

        void become(Steps other) {
            count = other.count;
            System.arraycopy(other.signs, 0, signs, 0, count);
            System.arraycopy(other.states, 0, states, 0, count);
            System.arraycopy(other.lefts, 0, lefts, 0, count);
            System.arraycopy(other.shares, 0, shares, 0, count);
            System.arraycopy(other.begins, 0, begins, 0, count);
        }
    }

    /** Where rows are packed and blocks taken on trial, so that an act with a finding changes nothing. */
    private static final class Bench {
        private final Table trial = new Table();
        private final Guide guide = new Guide();
        private final Steps steps = new Steps();
        private final int[] states = new int[MOST_LANES];
        private final int[] bytes = new int[ROW_LIMIT * MOST_SHIFTS];
        private int used = 0;

        /** Shares and begins of all signs of a row: the last place whose sign has none, or -1. */
        int plan(Table table, Row row) {
            int missing = -1;
            guide.begin(table);
            steps.count = row.count;
            for (int i = 0; i < row.count; i++) {
                int sign = row.signs[i];
                planSign(i, sign, guide.dealOf(table));
                guide.pass(table, sign);
                if (steps.shares[i] == 0) {
                    missing = i;
                }
            }
            return missing;
        }

        private void planSign(int i, int sign, Deal deal) {
            steps.signs[i] = sign;
            steps.shares[i] = deal.sharesOf(sign);
            steps.begins[i] = deal.begins[sign];
        }

        /** Packs the signs as planned; what a lane was ahead of packing a sign, it is again behind taking it. */
        void packSigns(int all, int lanes) {
            Arrays.fill(states, all);
            used = 0;
            if (lanes < 1 || lanes > MOST_LANES) {
                return;
            }
            for (int i = steps.count - 1; i >= 0; i--) {
                int lane = i % lanes;
                steps.states[i] = states[lane];
                steps.lefts[i] = used;
                states[lane] = packSign(i, states[lane], all);
            }
        }

        private int packSign(int i, int state, int all) {
            int shares = steps.shares[i];
            if (shares < 1) {
                return state;
            }
            int x = state;
            for (int shift = 0; shift < MOST_SHIFTS && x >= 256 * shares && used < bytes.length; shift++) {
                bytes[used] = x & 255;
                used++;
                x /= 256;
            }
            return all * (x / shares) + steps.begins[i] + x % shares;
        }

        /** How many bytes the block has of what was packed last, by a table whose deals take so many. */
        int blockSize(int toldSize, int lanes) {
            return 5 + toldSize + 3 * lanes + 2 + used + 2;
        }

        /** Takes signs by the trial table: whether just the bytes (from a start) go, and each lane is as at first. */
        boolean takeSigns(int count, int lanes, Block block, int start, int many) {
            if (lanes < 1 || lanes > MOST_LANES) {
                return false;
            }
            guide.begin(trial);
            steps.count = count;
            used = many;
            for (int i = 0; i < count; i++) {
                if (!takeSign(i, i % lanes, block, start)) {
                    return false;
                }
            }
            return used == 0 && areAtFirst(lanes);
        }

        private boolean takeSign(int i, int lane, Block block, int start) {
            int all = trial.all();
            int slot = states[lane] % all;
            Deal deal = guide.dealOf(trial);
            int sign = deal.signAt(slot);
            planSign(i, sign, deal);
            int x = steps.shares[i] * (states[lane] / all) + slot - steps.begins[i];
            for (int shift = 0; shift < MOST_SHIFTS && x < all; shift++) {
                if (used < 1 || start + used > block.length) {
                    return false;
                }
                used--;
                x = 256 * x + block.bytes[start + used];
            }
            states[lane] = x;
            steps.states[i] = x;
            steps.lefts[i] = used;
            guide.pass(trial, sign);
            return true;
        }

        private boolean areAtFirst(int lanes) {
            for (int lane = 0; lane < lanes; lane++) {
                if (states[lane] != trial.all()) {
                    return false;
                }
            }
            return true;
        }
    }

    /** THE BLOCK, with its steps and marks while it is known to be RIGHT. */
    private static final class Block {
        private final int[] bytes = new int[BLOCK_LIMIT];
        private int length = 0;
        private boolean made = false;
        private final Steps steps = new Steps();
        private int markEvery = 0;

        void become(Block other) {
            length = other.length;
            System.arraycopy(other.bytes, 0, bytes, 0, length);
            made = other.made;
            steps.become(other.steps);
            markEvery = other.markEvery;
        }

        int markCount() {
            return markEvery < 1 ? 0 : (steps.count + markEvery - 1) / markEvery;
        }

        /** It was changed from outside, so it may be wrong. */
        void doubt() {
            made = false;
            markEvery = 0;
        }

        /** It was found right with these steps; it is still the same block, so its marks stay. */
        void confirm(Steps found) {
            made = true;
            steps.become(found);
        }

        /** A number comes behind it, its high byte first. */
        void append(int number, int size) {
            for (int i = size - 1; i >= 0 && length < BLOCK_LIMIT; i--) {
                bytes[length] = number >>> (8 * i) & 255;
                length++;
            }
        }

        /** Becomes the block of what was packed last on a bench. */
        void fill(Table table, Bench bench, int lanes) {
            length = 0;
            append(table.kind, 1);
            append(table.r, 1);
            append(lanes, 1);
            append(bench.steps.count, 2);
            if (table.isTold()) {
                for (int part = 0; part < table.parts(); part++) {
                    appendDeal(table.deals[part]);
                }
            }
            for (int lane = 0; lane < lanes; lane++) {
                append(bench.states[lane], 3);
            }
            append(bench.used, 2);
            for (int i = 0; i < bench.used; i++) {
                append(bench.bytes[i], 1);
            }
            append(sumAhead(length), 2);
            markEvery = 0;
            confirm(bench.steps);
        }

        private void appendDeal(Deal deal) {
            append(deal.signsWithShares(), 2);
            for (int sign = 0; sign < SIGNS; sign++) {
                int shares = deal.sharesOf(sign);
                if (shares > 0) {
                    append(sign, 1);
                    append(shares - 1, 2);
                }
            }
        }

        /** The SUM over all bytes ahead of a place. */
        int sumAhead(int place) {
            long sum = 0;
            for (int i = 0; i < place; i++) {
                sum += (i + 1) * bytes[i];
            }
            return (int) (sum % SUM_MODULUS);
        }
    }

    /** Reads a block, number by number, until one is wrong. */
    private static final class Reader {
        private int place = 0;
        private int wrong = -1;

        /** The place of the first number that is wrong, or -1: then the bench has the steps of all signs. */
        int firstWrong(Block block, Bench bench) {
            place = 0;
            wrong = -1;
            int kind = number(block, 1, FIXED, GROWING);
            int r = number(block, 1, LEAST_R, MOST_R);
            int lanes = number(block, 1, 1, MOST_LANES);
            int count = number(block, 2, 0, ROW_LIMIT);
            if (wrong >= 0) {
                return wrong;
            }
            bench.trial.begin(kind, r);
            if (bench.trial.isTold()) {
                readDeals(block, bench.trial);
            }
            int statesPlace = place;
            readStates(block, bench, lanes);
            int many = readSize(block);
            int start = place;
            readSum(block, start + many);
            if (wrong < 0 && !bench.takeSigns(count, lanes, block, start, many)) {
                wrong = statesPlace;
            }
            return wrong;
        }

        /** The next number, of so many bytes; behind a wrong one nothing more is read. */
        private int number(Block block, int size, int least, int most) {
            if (wrong >= 0) {
                return least;
            }
            if (size > block.length - place) {
                wrong = block.length;
                return least;
            }
            int value = 0;
            for (int i = 0; i < size; i++) {
                value = value << 8 | block.bytes[place + i];
            }
            if (value < least || value > most) {
                wrong = place;
                return least;
            }
            place += size;
            return value;
        }

        private void readDeals(Block block, Table table) {
            for (int part = 0; part < table.parts() && wrong < 0; part++) {
                readDeal(block, table.deals[part], table.all());
            }
        }

        private void readDeal(Block block, Deal deal, int all) {
            int with = number(block, 2, 1, SIGNS);
            int rest = all;
            int sign = -1;
            for (int i = 0; i < with && wrong < 0; i++) {
                sign = number(block, 1, sign + 1, SIGNS - 1);
                // The last one must have all that is left, so that all shares are dealt.
                int least = i == with - 1 ? rest : 1;
                int shares = 1 + number(block, 2, least - 1, rest - 1);
                if (wrong < 0) {
                    deal.noteShares(sign, shares);
                    rest -= shares;
                }
            }
            deal.sumUp();
        }

        private void readStates(Block block, Bench bench, int lanes) {
            int all = bench.trial.all();
            for (int lane = 0; lane < lanes; lane++) {
                bench.states[lane] = number(block, 3, all, 256 * all - 1);
            }
        }

        /** How many bytes there are: just so many and the SUM must stand behind it. */
        private int readSize(Block block) {
            int sizePlace = place;
            int many = number(block, 2, 0, 65535);
            if (wrong < 0 && block.length - place != many + 2) {
                wrong = sizePlace;
            }
            return many;
        }

        private void readSum(Block block, int sumPlace) {
            if (wrong < 0) {
                place = sumPlace;
                int sum = block.sumAhead(sumPlace);
                number(block, 2, sum, sum);
            }
        }
    }

    /** All that is kept by keep() and comes again with back(). */
    private static final class Whole {
        private final Row[] rows = new Row[ROWS];
        /** A table is made when it is first needed and used again then: most objects have few. */
        private final Table[] tables = new Table[TABLE_LIMIT];
        private int tableCount = 0;
        private final Block block = new Block();
        private int lastMissing = 0;
        private int lastRead = 0;

        Whole() {
            for (int p = 0; p < ROWS; p++) {
                rows[p] = new Row();
            }
        }

        Table tableSlot(int number) {
            if (tables[number] == null) {
                tables[number] = new Table();
            }
            return tables[number];
        }

        void become(Whole other) {
            for (int p = 0; p < ROWS; p++) {
                rows[p].become(other.rows[p]);
            }
            for (int number = 0; number < other.tableCount; number++) {
                tableSlot(number).become(other.tableSlot(number));
            }
            tableCount = other.tableCount;
            block.become(other.block);
            lastMissing = other.lastMissing;
            lastRead = other.lastRead;
        }
    }
}
