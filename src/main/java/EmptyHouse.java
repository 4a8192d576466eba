import java.util.Arrays;

/** A village in which a debt is paid only into an empty house; ../shared/DOC.md says what each call answers. */
public final class EmptyHouse {
    public static final int BAD = -1, FULL = -2, FINDING = -3, STATE = -4, SPENT = -6, NONE = -9;

    private static final int NOTHING = 1, BEYOND = 2, UNLIKE = 3, NOUGHT = 4, SIZE = 5;
    private static final int FINDING_KINDS = 5;
    private static final int ROWS = 6, ROW_MOST = 60;
    private static final int TEXTS = 4, TEXT_MOST = 120;
    private static final int MISSING = -1;
    private static final int BLANK = 32;
    private static final int HOURS = 12;
    private static final int PEOPLE_MOST = 6, DEBTS_MOST = 8, DEBT_SETS = 1 << DEBTS_MOST;
    private static final int LAWS = 4, DOG_LAW = 1, LATE_LAW = 2, CONTRARY_LAW = 3;
    private static final int FIRST_LATE_HOUR = 8;
    private static final int CARDS_MOST = 99, CARDS_AT_FIRST = 5;
    private static final int KEPT_BOOKS = 3;
    private static final int HOUSE = 0, KENNEL = 1, SICKROOM = 2, SHARED = 3, LODGE = 4, YARD = 5;
    private static final int COUNTS = 8;

    private final int[][] rows = new int[ROWS][ROW_MOST];
    private final int[] rowSizes = new int[ROWS];
    private final byte[][] texts = new byte[TEXTS][TEXT_MOST];
    private final int[] textSizes = new int[TEXTS];
    private final Reader reader = new Reader();
    private final Books books = new Books();
    private final Rounds rounds = new Rounds();
    private final int[] findingCounts = new int[FINDING_KINDS + 1];
    private Village live = new Village();
    private int told = 0;
    private long toldUpper = 0;
    private long toldLower = 1;
    private int latestFinding = 0;

    public EmptyHouse() {
        Arrays.fill(rowSizes, MISSING);
        Arrays.fill(textSizes, MISSING);
    }

    // ---- 1 rows, texts, villages

    public int row(int r, int n) {
        if (!isRow(r) || n > ROW_MOST) {
            return BAD;
        }
        if (n < 0) {
            return find(SIZE);
        }
        layOutRow(r, n, 0);
        return n;
    }

    public int lay(int r, int i, int v) {
        int refusal = refusePlace(r, i);
        if (refusal != 0) {
            return refusal;
        }
        told = rows[r][i];
        rows[r][i] = v;
        return 1;
    }

    public int at(int r, int i) {
        int refusal = refusePlace(r, i);
        if (refusal != 0) {
            return refusal;
        }
        told = rows[r][i];
        return 1;
    }

    public int tear(int r) {
        if (!isRow(r)) {
            return BAD;
        }
        if (rowSizes[r] == MISSING) {
            return find(NOTHING);
        }
        rowSizes[r] = MISSING;
        return 1;
    }

    public int copy(int r, int i, int to, int j, int n) {
        if (!isRow(r) || !isRow(to)) {
            return BAD;
        }
        if (n < 0) {
            return find(SIZE);
        }
        if (rowSizes[r] == MISSING || rowSizes[to] == MISSING) {
            return find(NOTHING);
        }
        if (!hasPlaces(rowSizes[r], i, n) || !hasPlaces(rowSizes[to], j, n)) {
            return find(BEYOND);
        }
        System.arraycopy(rows[r], i, rows[to], j, n);
        return 1;
    }

    public int mean(int r) {
        if (!isRow(r)) {
            return BAD;
        }
        int size = rowSizes[r];
        if (size == MISSING) {
            return find(NOTHING);
        }
        if (size < 1) {
            return find(NOUGHT);
        }
        long sum = 0;
        for (int i = 0; i < size; i++) {
            sum += rows[r][i];
        }
        told = (int) (sum / size);
        return 1;
    }

    public int text(int t, int n) {
        if (!isText(t) || n > TEXT_MOST) {
            return BAD;
        }
        if (n < 0) {
            return find(SIZE);
        }
        Arrays.fill(texts[t], (byte) BLANK);
        textSizes[t] = n;
        return n;
    }

    public int put(int t, int i, int v) {
        if (!isText(t)) {
            return BAD;
        }
        if (textSizes[t] == MISSING) {
            return find(NOTHING);
        }
        if (!hasPlaces(textSizes[t], i, 1)) {
            return find(BEYOND);
        }
        int was = texts[t][i];
        texts[t][i] = (byte) v;
        return was + 1000;
    }

    public int fault(int t) {
        if (!isText(t)) {
            return BAD;
        }
        if (textSizes[t] == MISSING) {
            return find(NOTHING);
        }
        return reader.read(texts[t], textSizes[t]);
    }

    public int village(int t) {
        if (!isText(t)) {
            return BAD;
        }
        if (textSizes[t] == MISSING) {
            return find(NOTHING);
        }
        if (reader.read(texts[t], textSizes[t]) != NONE) {
            return STATE;
        }
        live = reader.handOver(live);
        books.forget();
        rounds.learn(live);
        return live.people;
    }

    public int one(int p, int what) {
        if (!live.isPerson(p) || what < 0 || what > 3) {
            return BAD;
        }
        told = live.ofPerson(p, what);
        return 1;
    }

    public int mark(int p, int kind) {
        if (!live.isPerson(p) || kind <= HOUSE || kind > YARD) {
            return BAD;
        }
        if (!live.isOfKind(p, kind)) {
            return find(UNLIKE);
        }
        return live.houseTells(p, kind);
    }

    public int debt(int d, int what) {
        if (!live.isDebt(d) || what < 0 || what > 4) {
            return BAD;
        }
        told = ofDebt(d, what);
        return 1;
    }

    public int law(int v) {
        if (v < 0 || v >= LAWS) {
            return BAD;
        }
        int was = live.law;
        live.law = v;
        return was;
    }

    public int cards(int p, int v) {
        if (!live.isPerson(p) || v < 0 || v > CARDS_MOST) {
            return BAD;
        }
        int was = live.cards[p];
        live.cards[p] = v;
        return was;
    }

    public int habit(int p, int t, int is) {
        if (!live.isPerson(p) || !isHour(t) || is < 0 || is > 1) {
            return BAD;
        }
        int was = (live.out[p] >> t) & 1;
        live.out[p] = (live.out[p] & ~(1 << t)) | (is << t);
        return was;
    }

    // ---- 2 hours, rounds

    public int empty(int p) {
        return live.isPerson(p) ? live.emptyHours(p) : BAD;
    }

    public int when(int d) {
        return live.isDebt(d) ? live.payableHours(d) : BAD;
    }

    public int hour(int t) {
        if (!isHour(t)) {
            return BAD;
        }
        int payable = live.payableDebts(t, live.peopleOut(t));
        told = rounds.mostAtOnce(payable);
        return payable;
    }

    public int judge(int r) {
        int refusal = refuseRound(r);
        if (refusal != 0) {
            return refusal;
        }
        int amiss = firstAmiss(rows[r]);
        told = amiss == NONE ? 0 : amiss;
        return amiss == NONE ? 0 : whatIsAmiss(rows[r], amiss);
    }

    public int worth(int r) {
        int refusal = refuseRound(r);
        if (refusal != 0) {
            return refusal;
        }
        if (firstAmiss(rows[r]) != NONE) {
            return find(UNLIKE);
        }
        int costs = 0;
        int end = 0;
        for (int d = 0; d < live.debts; d++) {
            int t = rows[r][d];
            costs += live.cost(d, t);
            end = Math.max(end, t + 1);
        }
        told = end;
        return costs;
    }

    public int best(int r) {
        if (!isRow(r)) {
            return BAD;
        }
        rounds.solve(live);
        rounds.trace();
        layOutRow(r, live.debts, NONE);
        System.arraycopy(rounds.best, 0, rows[r], 0, live.debts);
        told = live.allValues() + rounds.interestOf(rounds.leastLoss());
        return rounds.paidOf(rounds.leastLoss());
    }

    public int ways() {
        rounds.solve(live);
        toldUpper = rounds.countBest();
        toldLower = 1;
        return 1;
    }

    public int soonest() {
        rounds.solve(live);
        int end = rounds.leastEnd();
        told = live.allValues() + rounds.interestOf(rounds.lossBefore());
        return end;
    }

    // ---- 3 rings, calls, staying in

    public int rings() {
        int inRings = 0;
        int smallest = 0;
        for (int p = 0; p < live.people; p++) {
            int size = live.smallestRing(p);
            if (size > 0) {
                inRings |= 1 << p;
                smallest = smallest == 0 ? size : Math.min(smallest, size);
            }
        }
        told = smallest;
        return inRings;
    }

    public int few(int t, int n) {
        if (!isHour(t) || n < 1 || n > DEBTS_MOST) {
            return BAD;
        }
        int out = live.peopleOut(t);
        int least = PEOPLE_MOST + 1;
        int who = 0;
        // Sets come by rising bits, so the first one of a size is the least of that size.
        for (int called = 0; called < 1 << live.people; called++) {
            int size = Integer.bitCount(called);
            if (size < least && (called & out) == 0 && rounds.mostAtOnce(live.payableDebts(t, out | called)) >= n) {
                least = size;
                who = called;
            }
        }
        if (least > PEOPLE_MOST) {
            return NONE;
        }
        told = who;
        return least;
    }

    public int call() {
        rounds.solve(live);
        if (!rounds.findCall(live)) {
            return NONE;
        }
        told = rounds.interestOf(rounds.leastLoss()) - rounds.interestOf(rounds.callLoss);
        return 100 * rounds.callPerson + rounds.callHour;
    }

    public int stay(int p) {
        if (!live.isPerson(p)) {
            return BAD;
        }
        if (live.out[p] == 0) {
            return NONE;
        }
        rounds.solve(live);
        rounds.trace();
        int asItIs = rounds.paidTo(live, p);
        int most = 0;
        int hour = NONE;
        for (int t = 0; t < HOURS; t++) {
            if (((live.out[p] >> t) & 1) == 1) {
                int paid = rounds.paidWithout(live, p, t, asItIs);
                if (hour == NONE || paid > most) {
                    most = paid;
                    hour = t;
                }
            }
        }
        told = most - asItIs;
        return hour;
    }

    public int against(int d, int e) {
        if (!live.isDebt(d) || !live.isDebt(e) || d == e) {
            return BAD;
        }
        if (!live.oweOneAnother(d, e) || books.isPaid(d) || books.isPaid(e)) {
            return STATE;
        }
        int more = live.value[d] - live.value[e];
        told = more > 0 ? live.debtor[d] : more < 0 ? live.debtor[e] : NONE;
        return Math.abs(more);
    }

    public int family(int set) {
        if (set <= 0 || set >= 1 << live.people) {
            return BAD;
        }
        int hours = 0;
        for (int t = 0; t < HOURS; t++) {
            if ((live.peopleOut(t) & set) == set) {
                hours |= 1 << t;
            }
        }
        told = Integer.bitCount(hours);
        return hours;
    }

    // ---- 4 books

    public int pay(int d, int t) {
        if (!live.isDebt(d) || !isHour(t)) {
            return BAD;
        }
        if (books.isPaid(d) || !live.isPayable(d, t, live.peopleOut(t)) || isTakenBy(d, t)) {
            return STATE;
        }
        books.paidIn[d] = t;
        return live.cost(d, t);
    }

    public int unpay(int d) {
        if (!live.isDebt(d)) {
            return BAD;
        }
        if (!books.isPaid(d)) {
            return STATE;
        }
        int was = books.paidIn[d];
        books.paidIn[d] = NONE;
        return was;
    }

    public int paid() {
        int paidCosts = 0;
        int openCosts = 0;
        for (int d = 0; d < live.debts; d++) {
            int cost = live.cost(d, books.paidIn[d]);
            if (books.isPaid(d)) {
                paidCosts += cost;
            } else {
                openCosts += cost;
            }
        }
        told = openCosts;
        return paidCosts;
    }

    public int keep(int k) {
        if (!isKeepingPlace(k)) {
            return BAD;
        }
        books.store(k);
        return books.howManyPaid(live.debts);
    }

    public int on(int k) {
        if (!isKeepingPlace(k)) {
            return BAD;
        }
        if (!books.isKept[k]) {
            return find(NOTHING);
        }
        books.restore(k);
        return books.howManyPaid(live.debts);
    }

    public int must(int r, int p) {
        if (!live.isPerson(p)) {
            return BAD;
        }
        int refusal = refuseRound(r);
        if (refusal != 0) {
            return refusal;
        }
        return mustBeOut(rows[r], p);
    }

    public int liars(int r) {
        int refusal = refuseRound(r);
        if (refusal != 0) {
            return refusal;
        }
        int people = 0;
        int hours = 0;
        for (int p = 0; p < live.people; p++) {
            int unfit = mustBeOut(rows[r], p) & ~live.out[p];
            if (unfit != 0) {
                people |= 1 << p;
                hours += Integer.bitCount(unfit);
            }
        }
        told = hours;
        return people;
    }

    // ---- 5 what is told

    public int asked() {
        return told;
    }

    public long upper() {
        return toldUpper;
    }

    public long lower() {
        return toldLower;
    }

    public int count(int what) {
        switch (what) {
            case 0:
                return live.people;
            case 1:
                return live.debts;
            case 2:
                return books.howManyPaid(live.debts);
            case 3:
                return live.howManyOfKind(KENNEL);
            case 4:
                return live.howManyOfKind(SHARED);
            case 5:
                return books.howManyKept();
            case 6:
                return howManyThere(rowSizes);
            case 7:
                return howManyThere(textSizes);
            default:
                return BAD;
        }
    }

    public int finding() {
        return latestFinding;
    }

    public int findings(int f) {
        return f < 1 || f > FINDING_KINDS ? BAD : findingCounts[f];
    }

    public long digest() {
        long h = 17;
        for (int what = 0; what < COUNTS; what++) {
            h = 31 * h + count(what);
        }
        h = 31 * h + live.law;
        h = digestVillage(h);
        h = digestKeptBooks(h);
        for (int r = 0; r < ROWS; r++) {
            h = 31 * h + rowSizes[r];
            for (int i = 0; i < rowSizes[r]; i++) {
                h = 31 * h + rows[r][i];
            }
        }
        for (int t = 0; t < TEXTS; t++) {
            h = 31 * h + textSizes[t];
            for (int i = 0; i < textSizes[t]; i++) {
                h = 31 * h + texts[t][i];
            }
        }
        return h;
    }

    private long digestVillage(long start) {
        long h = start;
        for (int p = 0; p < live.people; p++) {
            for (int what = 0; what <= 3; what++) {
                h = 31 * h + live.ofPerson(p, what);
            }
        }
        for (int d = 0; d < live.debts; d++) {
            for (int what = 0; what <= 4; what++) {
                h = 31 * h + ofDebt(d, what);
            }
        }
        return h;
    }

    private long digestKeptBooks(long start) {
        long h = start;
        for (int k = 0; k < KEPT_BOOKS; k++) {
            if (!books.isKept[k]) {
                h = 31 * h + MISSING;
            } else {
                for (int d = 0; d < live.debts; d++) {
                    h = 31 * h + books.kept[k][d];
                }
            }
        }
        return h;
    }

    private int find(int kind) {
        latestFinding = kind;
        findingCounts[kind]++;
        return FINDING;
    }

    private static boolean isRow(int r) {
        return r >= 0 && r < ROWS;
    }

    private static boolean isText(int t) {
        return t >= 0 && t < TEXTS;
    }

    private static boolean isHour(int t) {
        return t >= 0 && t < HOURS;
    }

    private static boolean isKeepingPlace(int k) {
        return k >= 0 && k < KEPT_BOOKS;
    }

    /** Subtracts instead of adding i and n, whose sum could wrap around. */
    private static boolean hasPlaces(int size, int i, int n) {
        return i >= 0 && i <= size && n <= size - i;
    }

    private static int howManyThere(int[] sizes) {
        int there = 0;
        for (int size : sizes) {
            if (size != MISSING) {
                there++;
            }
        }
        return there;
    }

    private void layOutRow(int r, int n, int v) {
        Arrays.fill(rows[r], v);
        rowSizes[r] = n;
    }

    private int refusePlace(int r, int i) {
        if (!isRow(r)) {
            return BAD;
        }
        if (rowSizes[r] == MISSING) {
            return find(NOTHING);
        }
        return hasPlaces(rowSizes[r], i, 1) ? 0 : find(BEYOND);
    }

    private int refuseRound(int r) {
        if (!isRow(r)) {
            return BAD;
        }
        if (rowSizes[r] == MISSING) {
            return find(NOTHING);
        }
        if (rowSizes[r] != live.debts) {
            return find(SIZE);
        }
        for (int d = 0; d < live.debts; d++) {
            if (!isHour(rows[r][d]) && rows[r][d] != NONE) {
                return find(UNLIKE);
            }
        }
        return 0;
    }

    private int firstAmiss(int[] round) {
        for (int d = 0; d < live.debts; d++) {
            if (whatIsAmiss(round, d) != 0) {
                return d;
            }
        }
        return NONE;
    }

    /** Looks only at debts told ahead of d, so that of two which clash the later one is amiss. */
    private int whatIsAmiss(int[] round, int d) {
        int t = round[d];
        if (t == NONE) {
            return 0;
        }
        if (!live.isPayable(d, t, live.peopleOut(t))) {
            return 1;
        }
        boolean sameHouse = false;
        for (int e = 0; e < d; e++) {
            if (round[e] == t) {
                if (live.debtor[e] == live.debtor[d]) {
                    return 2;
                }
                if (live.creditor[e] == live.creditor[d]) {
                    sameHouse = true;
                }
            }
        }
        return sameHouse ? 3 : 0;
    }

    private boolean isTakenBy(int d, int t) {
        for (int e = 0; e < live.debts; e++) {
            if (books.paidIn[e] == t && live.clash(d, e)) {
                return true;
            }
        }
        return false;
    }

    private int ofDebt(int d, int what) {
        switch (what) {
            case 0:
                return live.debtor[d];
            case 1:
                return live.creditor[d];
            case 2:
                return live.value[d];
            case 3:
                return live.interest[d];
            default:
                return books.paidIn[d];
        }
    }

    private int mustBeOut(int[] round, int p) {
        int hours = 0;
        for (int d = 0; d < live.debts; d++) {
            if (round[d] != NONE && (live.debtor[d] == p || live.provesOut(live.creditor[d], p))) {
                hours |= 1 << round[d];
            }
        }
        return hours;
    }

    /** Who lives where and is out when, who owes whom, and the law of who counts as in. */
    private static final class Village {
        private static final int EVEN_HOURS = 0x555, ALL_HOURS = 0xFFF;

        int people = 0;
        int debts = 0;
        int law = 0;
        final int[] kind = new int[PEOPLE_MOST];
        final int[] mate = new int[PEOPLE_MOST];
        final int[] out = new int[PEOPLE_MOST];
        final int[] cards = new int[PEOPLE_MOST];
        final int[] debtor = new int[DEBTS_MOST];
        final int[] creditor = new int[DEBTS_MOST];
        final int[] value = new int[DEBTS_MOST];
        final int[] interest = new int[DEBTS_MOST];

        void clear() {
            people = 0;
            debts = 0;
            law = 0;
        }

        void addPerson(int houseKind, int with, int hours) {
            if (people < PEOPLE_MOST) {
                kind[people] = houseKind;
                mate[people] = with;
                out[people] = hours;
                cards[people] = CARDS_AT_FIRST;
                people++;
            }
        }

        void addDebt(int from, int to, int v, int i) {
            if (debts < DEBTS_MOST) {
                debtor[debts] = from;
                creditor[debts] = to;
                value[debts] = v;
                interest[debts] = i;
                debts++;
            }
        }

        boolean isPerson(int p) {
            return p >= 0 && p < people;
        }

        boolean isDebt(int d) {
            return d >= 0 && d < debts;
        }

        boolean isOfKind(int p, int wanted) {
            return kind[p] == wanted
                || wanted == KENNEL && kind[p] == YARD
                || wanted == SHARED && kind[p] == LODGE;
        }

        int howManyOfKind(int wanted) {
            int houses = 0;
            for (int p = 0; p < people; p++) {
                if (isOfKind(p, wanted)) {
                    houses++;
                }
            }
            return houses;
        }

        int ofPerson(int p, int what) {
            switch (what) {
                case 0:
                    return kind[p];
                case 1:
                    return mate[p];
                case 2:
                    return out[p];
                default:
                    return cards[p];
            }
        }

        int houseTells(int p, int asKind) {
            switch (asKind) {
                case KENNEL:
                    return Integer.bitCount(out[p] & dogHours(p));
                case SICKROOM:
                    return howManyOwedTo(p);
                case SHARED:
                    return mate[p];
                case LODGE:
                    return Integer.bitCount(out[p] ^ mateOut(p));
                default:
                    return Integer.bitCount(out[p]);
            }
        }

        private int howManyOwedTo(int p) {
            int owed = 0;
            for (int d = 0; d < debts; d++) {
                if (creditor[d] == p) {
                    owed++;
                }
            }
            return owed;
        }

        private int mateOut(int p) {
            return isPerson(mate[p]) ? out[mate[p]] : 0;
        }

        private int dogHours(int p) {
            return kind[p] == YARD ? ALL_HOURS : kind[p] == KENNEL ? EVEN_HOURS : 0;
        }

        /** The people (bits) who are out in an hour. */
        int peopleOut(int t) {
            int outs = 0;
            for (int p = 0; p < people; p++) {
                outs |= ((out[p] >> t) & 1) << p;
            }
            return outs;
        }

        int emptyHours(int p) {
            int hours = 0;
            for (int t = 0; t < HOURS; t++) {
                if (countsAsEmpty(p, t, peopleOut(t))) {
                    hours |= 1 << t;
                }
            }
            return hours;
        }

        int payableHours(int d) {
            int hours = 0;
            for (int t = 0; t < HOURS; t++) {
                if (isPayable(d, t, peopleOut(t))) {
                    hours |= 1 << t;
                }
            }
            return hours;
        }

        /** The debts (bits) that can be paid, each alone, if just these people are out. */
        int payableDebts(int t, int outs) {
            int payable = 0;
            for (int d = 0; d < debts; d++) {
                if (isPayable(d, t, outs)) {
                    payable |= 1 << d;
                }
            }
            return payable;
        }

        boolean isPayable(int d, int t, int outs) {
            return holds(outs, debtor[d]) && countsAsEmpty(creditor[d], t, outs);
        }

        private boolean countsAsEmpty(int p, int t, int outs) {
            boolean left = isLeft(p, outs);
            switch (law) {
                case DOG_LAW:
                    return left && !holds(dogHours(p), t);
                case LATE_LAW:
                    return left && t >= FIRST_LATE_HOUR;
                case CONTRARY_LAW:
                    return !left;
                default:
                    return left;
            }
        }

        private boolean isLeft(int p, int outs) {
            switch (kind[p]) {
                case SICKROOM:
                    return false;
                case SHARED:
                    return holds(outs, p) && holds(outs, mate[p]);
                case LODGE:
                    return holds(outs, p) || holds(outs, mate[p]);
                default:
                    return holds(outs, p);
            }
        }

        private static boolean holds(int set, int member) {
            return ((set >> member) & 1) == 1;
        }

        /** Whether a sum laid into the house of a creditor proves that p was out. */
        boolean provesOut(int owner, int p) {
            if (law == CONTRARY_LAW || kind[owner] == SICKROOM || kind[owner] == LODGE) {
                return false;
            }
            return owner == p || kind[owner] == SHARED && mate[owner] == p;
        }

        boolean clash(int d, int e) {
            return debtor[d] == debtor[e] || creditor[d] == creditor[e];
        }

        boolean oweOneAnother(int d, int e) {
            return debtor[d] == creditor[e] && creditor[d] == debtor[e];
        }

        /** What a debt costs if it is paid in an hour, or never (NONE). */
        int cost(int d, int t) {
            return value[d] + (t == NONE ? HOURS : t) * interest[d];
        }

        int allValues() {
            int sum = 0;
            for (int d = 0; d < debts; d++) {
                sum += value[d];
            }
            return sum;
        }

        /** How many there are in the smallest ring in which p lies (0: in none). */
        int smallestRing(int p) {
            int reached = 1 << p;
            for (int steps = 1; steps <= people; steps++) {
                reached = owedBy(reached);
                if (holds(reached, p)) {
                    return steps;
                }
            }
            return 0;
        }

        private int owedBy(int set) {
            int owed = 0;
            for (int d = 0; d < debts; d++) {
                if (holds(set, debtor[d])) {
                    owed |= 1 << creditor[d];
                }
            }
            return owed;
        }
    }

    /** Reads a text as a village, item by item, up to its end or its first fault. */
    private static final class Reader {
        private static final int SIGN_P = 112, SIGN_D = 100, SIGN_A = 97, DASH = 45, COLON = 58;
        private static final int FIRST_LETTER = 65, FIRST_FIGURE = 48;
        // In the order of the kinds of houses.
        private static final byte[] HOUSE_SIGNS = {104, 107, 115, 109, 108, 121};

        private byte[] signs = new byte[0];
        private int size = 0;
        private int place = 0;
        private boolean failed = false;
        private Village into = new Village();

        /** Hands over the village that was read and takes another one to read into, so that none is made anew. */
        Village handOver(Village spare) {
            Village ready = into;
            into = spare;
            return ready;
        }

        /** The place of the first fault, or NONE; only without one is there a village to hand over. */
        int read(byte[] text, int textSize) {
            signs = text;
            size = Math.min(textSize, text.length);
            place = 0;
            failed = false;
            into.clear();
            // Each turn takes a sign or fails, so there are no more turns than signs.
            for (int turn = 0; turn < size && place < size && !failed; turn++) {
                if (isNext(BLANK)) {
                    place++;
                } else if (isNext(SIGN_P)) {
                    readPerson();
                } else if (isNext(SIGN_D)) {
                    readDebt();
                } else {
                    failed = true;
                }
            }
            return failed ? place : NONE;
        }

        private void readPerson() {
            if (into.people >= PEOPLE_MOST) {
                failed = true;
                return;
            }
            place++;
            int kind = readHouseSign();
            int mate = NONE;
            if (!failed && (kind == SHARED || kind == LODGE)) {
                mate = readLetter(NONE);
            }
            int hours = 0;
            for (int turn = 0; turn < size && !failed && isNext(SIGN_A); turn++) {
                place++;
                hours |= readSpan();
            }
            if (!failed) {
                into.addPerson(kind, mate, hours);
            }
        }

        private int readSpan() {
            int from = readNumber(0, HOURS - 1);
            readSign(DASH);
            int to = readNumber(from, HOURS - 1);
            int hours = 0;
            for (int t = from; t <= to && !failed; t++) {
                hours |= 1 << t;
            }
            return hours;
        }

        private void readDebt() {
            if (into.debts >= DEBTS_MOST) {
                failed = true;
                return;
            }
            place++;
            int from = readLetter(NONE);
            int to = readLetter(from);
            readSign(COLON);
            int value = readNumber(1, 99);
            readSign(COLON);
            int interest = readFigure();
            if (!failed) {
                into.addDebt(from, to, value, interest);
            }
        }

        private boolean isNext(int sign) {
            return place < size && signs[place] == sign;
        }

        private boolean isFigureNext() {
            return place < size && signs[place] >= FIRST_FIGURE && signs[place] <= FIRST_FIGURE + 9;
        }

        // What reads below takes no sign once reading has failed, so that the first fault keeps its place.

        private void readSign(int sign) {
            if (!failed && isNext(sign)) {
                place++;
            } else {
                failed = true;
            }
        }

        private int readHouseSign() {
            for (int kind = 0; kind < HOUSE_SIGNS.length && !failed; kind++) {
                if (isNext(HOUSE_SIGNS[kind])) {
                    place++;
                    return kind;
                }
            }
            failed = true;
            return 0;
        }

        private int readLetter(int unlike) {
            if (!failed && place < size) {
                int p = signs[place] - FIRST_LETTER;
                if (into.isPerson(p) && p != unlike) {
                    place++;
                    return p;
                }
            }
            failed = true;
            return 0;
        }

        private int readFigure() {
            if (failed || !isFigureNext()) {
                failed = true;
                return 0;
            }
            int figure = signs[place] - FIRST_FIGURE;
            place++;
            return figure;
        }

        private int readNumber(int least, int most) {
            int number = readFigure();
            if (!failed && isFigureNext()) {
                number = 10 * number + readFigure();
            }
            if (number < least || number > most) {
                failed = true;
            }
            return number;
        }
    }

    /** In which hour each debt was paid, now and as it was kept. */
    private static final class Books {
        final int[] paidIn = new int[DEBTS_MOST];
        final int[][] kept = new int[KEPT_BOOKS][DEBTS_MOST];
        final boolean[] isKept = new boolean[KEPT_BOOKS];

        Books() {
            Arrays.fill(paidIn, NONE);
        }

        void forget() {
            Arrays.fill(paidIn, NONE);
            for (int k = 0; k < KEPT_BOOKS; k++) {
                isKept[k] = false;
            }
        }

        boolean isPaid(int d) {
            return paidIn[d] != NONE;
        }

        int howManyPaid(int debts) {
            int paid = 0;
            for (int d = 0; d < debts; d++) {
                if (isPaid(d)) {
                    paid++;
                }
            }
            return paid;
        }

        int howManyKept() {
            int books = 0;
            for (boolean there : isKept) {
                if (there) {
                    books++;
                }
            }
            return books;
        }

        void store(int k) {
            System.arraycopy(paidIn, 0, kept[k], 0, DEBTS_MOST);
            isKept[k] = true;
        }

        void restore(int k) {
            System.arraycopy(kept[k], 0, paidIn, 0, DEBTS_MOST);
        }
    }

    /**
     * All rounds of a village at once, by sets of debts (bits). A round's loss is its interest and MISSED for each
     * debt that it leaves unpaid, so that the least loss means most debts paid, then the least costs: what the debts
     * are worth without interest is due in every round alike.
     */
    private static final class Rounds {
        // Above all interest that can come together (8 debts of 9 over 12 hours) and the cards of a call.
        private static final int MISSED = 10000;
        private static final int UNREACHED = 1000000;

        private int debts = 0;
        private int all = 0;
        private final boolean[] fits = new boolean[DEBT_SETS];
        private final int[] rate = new int[DEBT_SETS];
        private final int[] payable = new int[HOURS];
        // restLoss[t][done]: the least loss from hour t on, if these debts are paid by then.
        private final int[][] restLoss = new int[HOURS + 1][DEBT_SETS];
        // paidLoss[done]: the least interest by which just these debts are paid in the hours passed so far.
        private final int[] paidLoss = new int[DEBT_SETS];
        private final long[] roundCounts = new long[DEBT_SETS];
        final int[] best = new int[DEBTS_MOST];
        int callLoss = 0;
        int callPerson = NONE;
        int callHour = NONE;

        Rounds() {
            fits[0] = true;
        }

        /** Which sets of debts can be paid in one hour as far as debtors and houses go, and their interest. */
        void learn(Village village) {
            debts = village.debts;
            all = (1 << debts) - 1;
            for (int d = 0; d < debts; d++) {
                int clashes = 0;
                for (int e = 0; e < d; e++) {
                    if (village.clash(d, e)) {
                        clashes |= 1 << e;
                    }
                }
                int own = 1 << d;
                for (int others = 0; others < own; others++) {
                    fits[own | others] = fits[others] && (others & clashes) == 0;
                    rate[own | others] = rate[others] + village.interest[d];
                }
            }
        }

        int mostAtOnce(int alone) {
            int most = 0;
            // Each next set within alone is a lesser number, down to the empty one.
            for (int set = alone & all; set > 0; set = (set - 1) & alone) {
                if (fits[set]) {
                    most = Math.max(most, Integer.bitCount(set));
                }
            }
            return most;
        }

        void solve(Village village) {
            for (int t = 0; t < HOURS; t++) {
                payable[t] = village.payableDebts(t, village.peopleOut(t));
            }
            for (int done = 0; done <= all; done++) {
                int open = all & ~done;
                restLoss[HOURS][done] = MISSED * Integer.bitCount(open) + HOURS * rate[open];
            }
            solveBackFrom(HOURS - 1);
        }

        private void solveBackFrom(int last) {
            for (int t = last; t >= 0; t--) {
                for (int done = 0; done <= all; done++) {
                    restLoss[t][done] = lossFrom(t, done);
                }
            }
        }

        private int lossFrom(int t, int done) {
            int open = payable[t] & ~done;
            int least = restLoss[t + 1][done];
            for (int now = open; now > 0; now = (now - 1) & open) {
                if (fits[now]) {
                    least = Math.min(least, lossBy(t, done, now));
                }
            }
            return least;
        }

        private int lossBy(int t, int done, int now) {
            return t * rate[now] + restLoss[t + 1][done | now];
        }

        int leastLoss() {
            return restLoss[0][0];
        }

        int interestOf(int loss) {
            return loss % MISSED;
        }

        int paidOf(int loss) {
            return debts - loss / MISSED;
        }

        /** Walks forward along least losses, in each hour by the set of the least bits. */
        void trace() {
            Arrays.fill(best, NONE);
            int done = 0;
            for (int t = 0; t < HOURS; t++) {
                int now = leastSet(t, done);
                for (int d = 0; d < debts; d++) {
                    if (((now >> d) & 1) == 1) {
                        best[d] = t;
                    }
                }
                done |= now;
            }
        }

        private int leastSet(int t, int done) {
            if (restLoss[t + 1][done] == restLoss[t][done]) {
                return 0;
            }
            int open = payable[t] & ~done;
            int least = 0;
            for (int now = open; now > 0; now = (now - 1) & open) {
                if (fits[now] && lossBy(t, done, now) == restLoss[t][done]) {
                    least = now;
                }
            }
            return least;
        }

        /**
         * What one is paid in the best round if that one is in at an hour. The hours behind it must still be solved
         * as they are, so whoever asks for several hours goes from the first to the last.
         */
        int paidWithout(Village village, int p, int t, int asItIs) {
            int payableOut = payable[t];
            int payableIn = village.payableDebts(t, village.peopleOut(t) & ~(1 << p));
            if (payableIn == payableOut) {
                return asItIs;
            }
            payable[t] = payableIn;
            solveBackFrom(t);
            trace();
            payable[t] = payableOut;
            return paidTo(village, p);
        }

        /** What one is paid in the traced round. */
        int paidTo(Village village, int p) {
            int sum = 0;
            for (int d = 0; d < debts; d++) {
                if (village.creditor[d] == p && best[d] != NONE) {
                    sum += village.cost(d, best[d]);
                }
            }
            return sum;
        }

        long countBest() {
            Arrays.fill(roundCounts, 0);
            roundCounts[0] = 1;
            for (int t = 0; t < HOURS; t++) {
                // Sets only grow, so from the greatest down none is passed on twice in one hour.
                for (int done = all; done >= 0; done--) {
                    if (roundCounts[done] != 0) {
                        passOn(t, done);
                    }
                }
            }
            long rounds = 0;
            for (int done = 0; done <= all; done++) {
                rounds += roundCounts[done];
            }
            return rounds;
        }

        private void passOn(int t, int done) {
            long ways = roundCounts[done];
            int open = payable[t] & ~done;
            for (int now = open; now > 0; now = (now - 1) & open) {
                if (fits[now] && lossBy(t, done, now) == restLoss[t][done]) {
                    roundCounts[done | now] += ways;
                }
            }
            if (restLoss[t + 1][done] != restLoss[t][done]) {
                roundCounts[done] = 0;
            }
        }

        private void startBefore() {
            Arrays.fill(paidLoss, UNREACHED);
            paidLoss[0] = 0;
        }

        private void passHour(int t) {
            // From the greatest set down, so that the lesser ones still stand as they were ahead of the hour.
            for (int done = all; done >= 0; done--) {
                int within = payable[t] & done;
                int least = paidLoss[done];
                for (int now = within; now > 0; now = (now - 1) & within) {
                    if (fits[now]) {
                        least = Math.min(least, paidLoss[done & ~now] + t * rate[now]);
                    }
                }
                paidLoss[done] = least;
            }
        }

        /** The least loss by which all that is paid is paid in the hours passed so far. */
        int lossBefore() {
            int least = UNREACHED;
            for (int done = 0; done <= all; done++) {
                least = Math.min(least, paidLoss[done] + restLoss[HOURS][done]);
            }
            return least;
        }

        /** Passes no more hours than it takes to pay as many debts as the best round; lossBefore() tells the rest. */
        int leastEnd() {
            startBefore();
            int end = 0;
            while (end < HOURS && paidOf(lossBefore()) < paidOf(leastLoss())) {
                passHour(end);
                end++;
            }
            return end;
        }

        /** Finds the best call; only the hour of a call changes, what is solved ahead of it and behind it stands. */
        boolean findCall(Village village) {
            callPerson = NONE;
            startBefore();
            for (int t = 0; t < HOURS; t++) {
                int outs = village.peopleOut(t);
                for (int p = 0; p < village.people; p++) {
                    if (((outs >> p) & 1) == 0) {
                        int loss = lossWith(t, village.payableDebts(t, outs | 1 << p)) + village.cards[p];
                        weighCall(p, t, loss);
                    }
                }
                passHour(t);
            }
            return callPerson != NONE;
        }

        private void weighCall(int p, int t, int loss) {
            // Calls come by hours, but of alike ones people count ahead of hours.
            if (callPerson == NONE || loss < callLoss || loss == callLoss && p < callPerson) {
                callLoss = loss;
                callPerson = p;
                callHour = t;
            }
        }

        private int lossWith(int t, int payableThen) {
            int asItIs = payable[t];
            if (payableThen == asItIs) {
                return leastLoss();
            }
            payable[t] = payableThen;
            int least = UNREACHED;
            for (int done = 0; done <= all; done++) {
                if (paidLoss[done] < UNREACHED) {
                    least = Math.min(least, paidLoss[done] + lossFrom(t, done));
                }
            }
            payable[t] = asItIs;
            return least;
        }
    }
}
