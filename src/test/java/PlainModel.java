import java.util.ArrayList;
import java.util.List;

/** A village as the document tells it, word by word, which tries every round there is. */
final class PlainModel {
    static final int NONE = EmptyHouse.NONE;

    record Debt(int from, int to, int value, int interest) {
    }

    record Round(int[] hours, int paid, int costs) {
    }

    final List<Integer> kinds = new ArrayList<>();
    final List<Integer> mates = new ArrayList<>();
    final List<boolean[]> out = new ArrayList<>();
    final List<Integer> cards = new ArrayList<>();
    final List<Debt> debts = new ArrayList<>();
    int law = 0;

    boolean emptyByLaw0(int p, int t) {
        return switch (kinds.get(p)) {
            case 2 -> false;
            case 3 -> out.get(p)[t] && out.get(mates.get(p))[t];
            case 4 -> out.get(p)[t] || out.get(mates.get(p))[t];
            default -> out.get(p)[t];
        };
    }

    boolean empty(int p, int t) {
        boolean dogIn = kinds.get(p) == 5 || kinds.get(p) == 1 && t % 2 == 0;
        boolean plain = emptyByLaw0(p, t);
        return switch (law) {
            case 1 -> plain && !dogIn;
            case 2 -> plain && t >= 8;
            case 3 -> !plain;
            default -> plain;
        };
    }

    boolean payable(int d, int t) {
        return out.get(debts.get(d).from())[t] && empty(debts.get(d).to(), t);
    }

    int cost(int d, int t) {
        return debts.get(d).value() + (t == NONE ? 12 : t) * debts.get(d).interest();
    }

    int amiss(int[] round, int d) {
        if (round[d] == NONE) {
            return 0;
        }
        if (!payable(d, round[d])) {
            return 1;
        }
        for (int e = 0; e < d; e++) {
            if (round[e] == round[d] && debts.get(e).from() == debts.get(d).from()) {
                return 2;
            }
        }
        for (int e = 0; e < d; e++) {
            if (round[e] == round[d] && debts.get(e).to() == debts.get(d).to()) {
                return 3;
            }
        }
        return 0;
    }

    /** How many rounds there are at most, to leave out villages that would take too long. */
    double size() {
        double size = 1;
        for (int d = 0; d < debts.size(); d++) {
            int hours = 1;
            for (int t = 0; t < 12; t++) {
                hours += payable(d, t) ? 1 : 0;
            }
            size *= hours;
        }
        return size;
    }

    List<Round> rounds() {
        List<Round> all = new ArrayList<>();
        extend(new int[debts.size()], 0, all);
        return all;
    }

    private void extend(int[] round, int d, List<Round> all) {
        if (d == debts.size()) {
            int paid = 0;
            int costs = 0;
            for (int e = 0; e < d; e++) {
                paid += round[e] == NONE ? 0 : 1;
                costs += cost(e, round[e]);
            }
            all.add(new Round(round.clone(), paid, costs));
            return;
        }
        for (int t = -1; t < 12; t++) {
            round[d] = t < 0 ? NONE : t;
            if (amiss(round, d) == 0) {
                extend(round, d + 1, all);
            }
        }
    }

    static int set(Round round, int t) {
        int set = 0;
        for (int d = 0; d < round.hours().length; d++) {
            set |= round.hours()[d] == t ? 1 << d : 0;
        }
        return set;
    }

    static int end(Round round) {
        int end = 0;
        for (int t : round.hours()) {
            end = Math.max(end, t + 1);
        }
        return end;
    }

    static boolean better(Round a, Round b) {
        if (a.paid() != b.paid()) {
            return a.paid() > b.paid();
        }
        if (a.costs() != b.costs()) {
            return a.costs() < b.costs();
        }
        for (int t = 0; t < 12; t++) {
            if (set(a, t) != set(b, t)) {
                return set(a, t) < set(b, t);
            }
        }
        return false;
    }

    static Round best(List<Round> rounds) {
        Round best = rounds.get(0);
        for (Round round : rounds) {
            best = better(round, best) ? round : best;
        }
        return best;
    }

    int mostAtOnce(int t) {
        int most = 0;
        for (int set = 0; set < 1 << debts.size(); set++) {
            int[] round = new int[debts.size()];
            boolean fits = true;
            for (int d = 0; d < round.length; d++) {
                round[d] = (set >> d & 1) == 1 ? t : NONE;
                fits &= amiss(round, d) == 0;
            }
            most = fits ? Math.max(most, Integer.bitCount(set)) : most;
        }
        return most;
    }

    int paidTo(int p) {
        Round best = best(rounds());
        int sum = 0;
        for (int d = 0; d < debts.size(); d++) {
            if (best.hours()[d] != NONE && debts.get(d).to() == p) {
                sum += cost(d, best.hours()[d]);
            }
        }
        return sum;
    }

    /** The smallest ring that begins at p and goes on along a path, by trying all paths. */
    int ring(int p, int here, int seen, int length) {
        int least = 99;
        for (Debt debt : debts) {
            if (debt.from() == here && debt.to() == p) {
                least = Math.min(least, length);
            } else if (debt.from() == here && (seen >> debt.to() & 1) == 0) {
                least = Math.min(least, ring(p, debt.to(), seen | 1 << debt.to(), length + 1));
            }
        }
        return least;
    }

    int must(int[] round, int p) {
        int hours = 0;
        for (int d = 0; d < round.length; d++) {
            if (round[d] == NONE) {
                continue;
            }
            int to = debts.get(d).to();
            int kind = kinds.get(to);
            boolean proves = law != 3 && kind != 2 && kind != 4;
            boolean is = debts.get(d).from() == p || proves && to == p || proves && kind == 3 && mates.get(to) == p;
            hours |= is ? 1 << round[d] : 0;
        }
        return hours;
    }

    int hours(int p) {
        int hours = 0;
        for (int t = 0; t < 12; t++) {
            hours |= out.get(p)[t] ? 1 << t : 0;
        }
        return hours;
    }

    /** The village as a text, hour by hour or by spans. */
    String text() {
        StringBuilder text = new StringBuilder();
        for (int p = 0; p < kinds.size(); p++) {
            text.append('p').append("hksmly".charAt(kinds.get(p)));
            if (mates.get(p) != NONE) {
                text.append((char) ('A' + mates.get(p)));
            }
            for (int t = 0; t < 12; t++) {
                if (out.get(p)[t] && (t == 0 || !out.get(p)[t - 1])) {
                    int last = t;
                    while (last < 11 && out.get(p)[last + 1]) {
                        last++;
                    }
                    text.append('a').append(t).append('-').append(last);
                }
            }
        }
        for (Debt debt : debts) {
            text.append('d').append((char) ('A' + debt.from())).append((char) ('A' + debt.to()));
            text.append(':').append(debt.value()).append(':').append(debt.interest());
        }
        return text.toString();
    }
}
