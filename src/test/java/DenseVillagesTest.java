import java.util.Random;

/** Promises 23 to 25, 28 and 29 in villages of eight debts that can be paid in most hours. */
public final class DenseVillagesTest {
    private static final int NONE = EmptyHouse.NONE;
    private static final int VILLAGES = 1000, CALLED = 200;
    private static final Random RANDOM = new Random(1118);

    private static PlainModel m;
    private static EmptyHouse x;
    private static String name;

    public static void main(String[] args) {
        for (int i = 0; i < VILLAGES; i++) {
            m = denseVillage();
            name = m.text() + " by law " + m.law;
            settle();
            rounds();
            if (i < CALLED) {
                call();
                stay();
            }
        }
        Due.end();
    }

    private static PlainModel denseVillage() {
        PlainModel v = new PlainModel();
        v.law = RANDOM.nextInt(4);
        for (int p = 0; p < 6; p++) {
            int kind = RANDOM.nextInt(6);
            kind = kind == 2 || p == 0 && (kind == 3 || kind == 4) ? 0 : kind;
            v.kinds.add(kind);
            v.mates.add(kind == 3 || kind == 4 ? RANDOM.nextInt(p) : NONE);
            boolean[] out = new boolean[12];
            int in = RANDOM.nextInt(12);
            for (int t = 0; t < 12; t++) {
                out[t] = t != in && t != (in + 5) % 12;
            }
            v.out.add(out);
            v.cards.add(5);
        }
        for (int d = 0; d < 8; d++) {
            int from = RANDOM.nextInt(6);
            int to = (from + 1 + RANDOM.nextInt(5)) % 6;
            v.debts.add(new PlainModel.Debt(from, to, 1 + RANDOM.nextInt(9), 1 + RANDOM.nextInt(9)));
        }
        return v;
    }

    /** All these hours do not fit into a text: nobody is out there, habit() tells who is. */
    private static void settle() {
        x = Due.village(m.text().replaceAll("a[0-9]+-[0-9]+", ""));
        x.law(m.law);
        for (int p = 0; p < 6; p++) {
            for (int t = 0; t < 12; t++) {
                x.habit(p, t, m.out.get(p)[t] ? 1 : 0);
            }
        }
    }

    private static void told(String what, int got, int due, int toldDue) {
        Due.told(x, name + ": " + what, got, due, toldDue);
    }

    private static void rounds() {
        BoundedSearch all = new BoundedSearch(m, 11);
        told("best", x.best(0), all.paid, all.costs);
        for (int d = 0; d < m.debts.size(); d++) {
            told("hour of debt " + d, x.at(0, d), 1, all.best[d]);
        }
        x.ways();
        Due.is(name + ": ways", x.upper(), all.ways);
        for (int end = 0; end <= 12; end++) {
            BoundedSearch before = new BoundedSearch(m, end - 1);
            if (before.paid == all.paid) {
                told("soonest", x.soonest(), end, before.costs);
                return;
            }
        }
    }

    private static void call() {
        int due = NONE;
        int paid = -1;
        int costs = 0;
        for (int p = 0; p < 6; p++) {
            for (int t = 0; t < 12; t++) {
                if (!m.out.get(p)[t]) {
                    m.out.get(p)[t] = true;
                    BoundedSearch with = new BoundedSearch(m, 11);
                    m.out.get(p)[t] = false;
                    if (with.paid > paid || with.paid == paid && with.costs + m.cards.get(p) < costs) {
                        due = 100 * p + t;
                        paid = with.paid;
                        costs = with.costs + m.cards.get(p);
                    }
                }
            }
        }
        told("call", x.call(), due, new BoundedSearch(m, 11).costs - costs);
    }

    private static int paidTo(int p) {
        int[] best = new BoundedSearch(m, 11).best;
        int sum = 0;
        for (int d = 0; d < best.length; d++) {
            sum += best[d] != NONE && m.debts.get(d).to() == p ? m.cost(d, best[d]) : 0;
        }
        return sum;
    }

    private static void stay() {
        for (int p = 0; p < 6; p++) {
            int asItIs = paidTo(p);
            int hour = NONE;
            int most = 0;
            for (int t = 0; t < 12; t++) {
                if (m.out.get(p)[t]) {
                    m.out.get(p)[t] = false;
                    int paid = paidTo(p);
                    m.out.get(p)[t] = true;
                    if (hour == NONE || paid > most) {
                        hour = t;
                        most = paid;
                    }
                }
            }
            told("stay " + p, x.stay(p), hour, most - asItIs);
        }
    }
}
