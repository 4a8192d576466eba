import java.util.List;
import java.util.Random;

/** Promises 18 to 38: random villages, each answer against that of the plain model. */
public final class PlainModelTest {
    private static final int NONE = EmptyHouse.NONE;
    private static final int VILLAGES = 1500;
    private static final Random RANDOM = new Random(20261118);

    private static PlainModel m;
    private static EmptyHouse x;
    private static String name;

    public static void main(String[] args) {
        int tried = 0;
        for (int i = 0; i < 20000 && tried < VILLAGES; i++) {
            m = randomVillage();
            name = m.text() + " by law " + m.law;
            if (m.text().length() <= 120 && m.size() <= 3000) {
                tried++;
                x = Due.village(m.text());
                x.law(m.law);
                for (int p = 0; p < m.kinds.size(); p++) {
                    x.cards(p, m.cards.get(p));
                }
                hours();
                rounds();
                judged();
                rings();
                few();
                call();
                stay();
                books();
            }
        }
        Due.is("villages tried", tried, VILLAGES);
        Due.end();
    }

    private static PlainModel randomVillage() {
        PlainModel v = new PlainModel();
        int people = RANDOM.nextInt(7);
        int share = RANDOM.nextInt(10);
        for (int p = 0; p < people; p++) {
            int kind = RANDOM.nextInt(6);
            kind = p == 0 && (kind == 3 || kind == 4) ? 0 : kind;
            v.kinds.add(kind);
            v.mates.add(kind == 3 || kind == 4 ? RANDOM.nextInt(p) : NONE);
            boolean[] out = new boolean[12];
            boolean is = RANDOM.nextBoolean();
            for (int t = 0; t < 12; t++) {
                is = RANDOM.nextInt(3) == 0 ? RANDOM.nextInt(10) <= share : is;
                out[t] = is;
            }
            v.out.add(out);
            v.cards.add(RANDOM.nextInt(3) == 0 ? RANDOM.nextInt(100) : 5);
        }
        int most = RANDOM.nextInt(10);
        for (int d = 0; d < Math.min(8, most) && people > 1; d++) {
            int from = RANDOM.nextInt(people);
            int to = (from + 1 + RANDOM.nextInt(people - 1)) % people;
            v.debts.add(new PlainModel.Debt(from, to, 1 + RANDOM.nextInt(99), RANDOM.nextInt(most < 5 ? 3 : 10)));
        }
        v.law = RANDOM.nextInt(4);
        return v;
    }

    private static void is(String what, long got, long due) {
        Due.is(name + ": " + what, got, due);
    }

    private static void told(String what, int got, int due, int toldDue) {
        Due.told(x, name + ": " + what, got, due, toldDue);
    }

    private static void hours() {
        for (int p = 0; p < m.kinds.size(); p++) {
            int empty = 0;
            for (int t = 0; t < 12; t++) {
                empty |= m.empty(p, t) ? 1 << t : 0;
            }
            is("empty " + p, x.empty(p), empty);
        }
        int[] at = new int[12];
        for (int d = 0; d < m.debts.size(); d++) {
            int when = 0;
            for (int t = 0; t < 12; t++) {
                when |= m.payable(d, t) ? 1 << t : 0;
                at[t] |= m.payable(d, t) ? 1 << d : 0;
            }
            is("when " + d, x.when(d), when);
        }
        for (int t = 0; t < 12; t++) {
            told("hour " + t, x.hour(t), at[t], m.mostAtOnce(t));
        }
        for (int set = 1; set < 1 << m.kinds.size(); set++) {
            int all = 0xFFF;
            for (int p = 0; p < m.kinds.size(); p++) {
                all &= (set >> p & 1) == 1 ? m.hours(p) : all;
            }
            told("family " + set, x.family(set), all, Integer.bitCount(all));
        }
    }

    private static void rounds() {
        List<PlainModel.Round> all = m.rounds();
        PlainModel.Round best = PlainModel.best(all);
        told("best", x.best(0), best.paid(), best.costs());
        for (int d = 0; d < m.debts.size(); d++) {
            told("hour of debt " + d, x.at(0, d), 1, best.hours()[d]);
        }
        told("worth of the best", x.worth(0), best.costs(), PlainModel.end(best));
        int ways = 0;
        int end = 99;
        for (PlainModel.Round round : all) {
            if (round.paid() == best.paid()) {
                ways += round.costs() == best.costs() ? 1 : 0;
                end = Math.min(end, PlainModel.end(round));
            }
        }
        int least = Integer.MAX_VALUE;
        for (PlainModel.Round round : all) {
            if (round.paid() == best.paid() && PlainModel.end(round) == end) {
                least = Math.min(least, round.costs());
            }
        }
        is("ways", x.ways(), 1);
        is("upper", x.upper(), ways);
        told("soonest", x.soonest(), end, least);
    }

    private static int[] randomRound() {
        int[] round = new int[m.debts.size()];
        int span = 1 + RANDOM.nextInt(12);
        for (int d = 0; d < round.length; d++) {
            round[d] = RANDOM.nextInt(4) == 0 ? NONE : RANDOM.nextInt(span);
            for (int i = 0; i < 6 && round[d] != NONE && !m.payable(d, round[d]); i++) {
                round[d] = RANDOM.nextInt(12);
            }
        }
        return round;
    }

    private static void judged() {
        for (int i = 0; i < 10; i++) {
            int[] round = randomRound();
            Due.round(x, 1, round);
            int amiss = 0;
            int which = 0;
            int costs = 0;
            int end = 0;
            for (int d = round.length - 1; d >= 0; d--) {
                which = m.amiss(round, d) != 0 ? d : which;
                amiss = m.amiss(round, d) != 0 ? m.amiss(round, d) : amiss;
                costs += m.cost(d, round[d]);
                end = Math.max(end, round[d] + 1);
            }
            told("judge", x.judge(1), amiss, which);
            told("worth", x.worth(1), amiss == 0 ? costs : EmptyHouse.FINDING, amiss == 0 ? end : which);
            int liars = 0;
            int hours = 0;
            for (int p = 0; p < m.kinds.size(); p++) {
                is("must " + p, x.must(1, p), m.must(round, p));
                int unfit = m.must(round, p) & ~m.hours(p);
                liars |= unfit != 0 ? 1 << p : 0;
                hours += Integer.bitCount(unfit);
            }
            told("liars", x.liars(1), liars, hours);
        }
    }

    private static void rings() {
        int people = 0;
        int smallest = 99;
        for (int p = 0; p < m.kinds.size(); p++) {
            int ring = m.ring(p, p, 1 << p, 1);
            people |= ring < 99 ? 1 << p : 0;
            smallest = Math.min(smallest, ring);
        }
        told("rings", x.rings(), people, smallest == 99 ? 0 : smallest);
    }

    private static void few() {
        int t = RANDOM.nextInt(12);
        int[] most = new int[1 << m.kinds.size()];
        for (int called = 0; called < most.length; called++) {
            boolean[] was = new boolean[6];
            boolean outAlready = false;
            for (int p = 0; p < m.kinds.size(); p++) {
                was[p] = m.out.get(p)[t];
                outAlready |= was[p] && (called >> p & 1) == 1;
                m.out.get(p)[t] |= (called >> p & 1) == 1;
            }
            most[called] = outAlready ? -1 : m.mostAtOnce(t);
            for (int p = 0; p < m.kinds.size(); p++) {
                m.out.get(p)[t] = was[p];
            }
        }
        for (int n = 1; n <= 8; n++) {
            int who = -1;
            for (int called = 0; called < most.length; called++) {
                if (most[called] >= n && (who < 0 || Integer.bitCount(called) < Integer.bitCount(who))) {
                    who = called;
                }
            }
            int before = x.asked();
            told("few " + t + " " + n, x.few(t, n), who < 0 ? NONE : Integer.bitCount(who), who < 0 ? before : who);
        }
    }

    private static void call() {
        PlainModel.Round asItIs = PlainModel.best(m.rounds());
        int due = NONE;
        int paid = -1;
        int costs = 0;
        for (int p = 0; p < m.kinds.size(); p++) {
            for (int t = 0; t < 12; t++) {
                if (!m.out.get(p)[t]) {
                    m.out.get(p)[t] = true;
                    PlainModel.Round best = PlainModel.best(m.rounds());
                    m.out.get(p)[t] = false;
                    int with = best.costs() + m.cards.get(p);
                    if (best.paid() > paid || best.paid() == paid && with < costs) {
                        due = 100 * p + t;
                        paid = best.paid();
                        costs = with;
                    }
                }
            }
        }
        int before = x.asked();
        told("call", x.call(), due, due == NONE ? before : asItIs.costs() - costs);
    }

    private static void stay() {
        for (int p = 0; p < m.kinds.size(); p++) {
            int asItIs = m.paidTo(p);
            int hour = NONE;
            int most = 0;
            for (int t = 0; t < 12; t++) {
                if (m.out.get(p)[t]) {
                    m.out.get(p)[t] = false;
                    int paid = m.paidTo(p);
                    m.out.get(p)[t] = true;
                    if (hour == NONE || paid > most) {
                        hour = t;
                        most = paid;
                    }
                }
            }
            int before = x.asked();
            told("stay " + p, x.stay(p), hour, hour == NONE ? before : most - asItIs);
        }
    }

    private static void books() {
        int debts = m.debts.size();
        int[] book = new int[debts];
        java.util.Arrays.fill(book, NONE);
        for (int i = 0; i < 20 && debts > 0; i++) {
            int d = RANDOM.nextInt(debts);
            if (RANDOM.nextInt(4) == 0) {
                is("unpay", x.unpay(d), book[d] == NONE ? EmptyHouse.STATE : book[d]);
                book[d] = NONE;
            } else {
                int t = RANDOM.nextInt(12);
                boolean can = book[d] == NONE && m.payable(d, t);
                for (int e = 0; e < debts; e++) {
                    PlainModel.Debt a = m.debts.get(d);
                    PlainModel.Debt b = m.debts.get(e);
                    can &= book[e] != t || a.from() != b.from() && a.to() != b.to();
                }
                is("pay", x.pay(d, t), can ? m.cost(d, t) : EmptyHouse.STATE);
                book[d] = can ? t : book[d];
            }
        }
        int paid = 0;
        int open = 0;
        for (int d = 0; d < debts; d++) {
            paid += book[d] == NONE ? 0 : m.cost(d, book[d]);
            open += book[d] == NONE ? m.cost(d, NONE) : 0;
        }
        told("paid", x.paid(), paid, open);
        against(book);
    }

    private static void against(int[] book) {
        for (int d = 0; d < book.length; d++) {
            for (int e = 0; e < book.length; e++) {
                PlainModel.Debt a = m.debts.get(d);
                PlainModel.Debt b = m.debts.get(e);
                boolean such = a.from() == b.to() && a.to() == b.from() && book[d] == NONE && book[e] == NONE;
                int left = Math.abs(a.value() - b.value());
                int who = a.value() > b.value() ? a.from() : a.value() < b.value() ? b.from() : NONE;
                int before = x.asked();
                int due = d == e ? EmptyHouse.BAD : such ? left : EmptyHouse.STATE;
                told("against", x.against(d, e), due, due < 0 ? before : who);
            }
        }
    }
}
