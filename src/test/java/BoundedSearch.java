/**
 * Finds the best round of a plain model debt by debt, leaving out only what cannot be as good as a round found already,
 * so that villages can be tried whose rounds are too many to be listed.
 */
final class BoundedSearch {
    private static final int NONE = EmptyHouse.NONE;

    private final PlainModel m;
    private final int lastHour;
    private final int[] round;
    // What the debts from one on can still bring at best, each by itself.
    private final int[] canBePaid;
    private final int[] costsAtLeast;
    int paid = -1;
    int costs = 0;
    int[] best;
    long ways = 0;

    BoundedSearch(PlainModel model, int lastHour) {
        m = model;
        this.lastHour = lastHour;
        int debts = m.debts.size();
        round = new int[debts];
        best = new int[debts];
        canBePaid = new int[debts + 1];
        costsAtLeast = new int[debts + 1];
        for (int d = debts - 1; d >= 0; d--) {
            int first = 0;
            while (first <= lastHour && !m.payable(d, first)) {
                first++;
            }
            canBePaid[d] = canBePaid[d + 1] + (first <= lastHour ? 1 : 0);
            costsAtLeast[d] = costsAtLeast[d + 1] + m.cost(d, first <= lastHour ? first : NONE);
        }
        extend(0, 0, 0);
    }

    private void extend(int d, int paidSoFar, int costsSoFar) {
        int most = paidSoFar + canBePaid[d];
        if (most < paid || most == paid && costsSoFar + costsAtLeast[d] > costs) {
            return;
        }
        if (d == round.length) {
            weigh(paidSoFar, costsSoFar);
            return;
        }
        for (int t = 0; t <= lastHour + 1; t++) {
            round[d] = t <= lastHour ? t : NONE;
            if (m.amiss(round, d) == 0) {
                extend(d + 1, paidSoFar + (t <= lastHour ? 1 : 0), costsSoFar + m.cost(d, round[d]));
            }
        }
    }

    private void weigh(int paidNow, int costsNow) {
        boolean alike = paidNow == paid && costsNow == costs;
        if (!alike) {
            paid = paidNow;
            costs = costsNow;
            ways = 0;
        }
        ways++;
        PlainModel.Round now = new PlainModel.Round(round, paidNow, costsNow);
        if (!alike || PlainModel.better(now, new PlainModel.Round(best, paid, costs))) {
            best = round.clone();
        }
    }
}
