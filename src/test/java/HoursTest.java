/** Promises 18 to 25: empty houses, when debts can be paid, and rounds. */
public final class HoursTest {
    private static final int NOTHING = 1, UNLIKE = 3, SIZE = 5;
    private static final int NONE = EmptyHouse.NONE;
    private static final int ALL = 0xFFF;

    public static void main(String[] args) {
        empty();
        when();
        hour();
        judge();
        judgeOrder();
        judgeRefused();
        worth();
        worthOfWhatCannotBe();
        best();
        bestOfAlike();
        roundsOfEight();
        roundsOfAnotherVillage();
        ways();
        soonest();
        Due.end();
    }

    private static void empty() {
        EmptyHouse x = Due.village("pha0-2a9-9 pka2-5 psa7-9 pmAa1-4 plBa4-9 pya3-6a8-10");
        int[] plain = {0x207, 0x03C, 0, 0x006, 0x3FC, 0x778};
        for (int p = 0; p < 6; p++) {
            Due.is("empty " + p, x.empty(p), plain[p]);
        }
        x.law(1);
        int[] dogs = {0x207, 0x028, 0, 0x006, 0x3FC, 0};
        for (int p = 0; p < 6; p++) {
            Due.is("law 1: empty " + p, x.empty(p), dogs[p]);
        }
        x.law(2);
        for (int p = 0; p < 6; p++) {
            Due.is("law 2: empty " + p, x.empty(p), plain[p] & 0xF00);
        }
        x.law(3);
        for (int p = 0; p < 6; p++) {
            Due.is("law 3: empty " + p, x.empty(p), ALL & ~plain[p]);
        }
        Due.is("empty 6", x.empty(6), -1);
        Due.is("empty -1", x.empty(-1), -1);
    }

    private static void when() {
        EmptyHouse x = Due.village("pha0-5 pka3-9 ps dAB:5:1dBA:5:1dAC:5:1");
        int[][] due = {{0x038, 0x038, 0}, {0x028, 0x038, 0}, {0, 0, 0}, {0x007, 0x3C0, 0x03F}};
        for (int law = 0; law < 4; law++) {
            x.law(law);
            for (int d = 0; d < 3; d++) {
                Due.is("law " + law + ": when " + d, x.when(d), due[law][d]);
            }
        }
        x.law(0);
        x.pay(0, 4);
        Due.is("a paid one can be as well", x.when(0), 0x038);
        Due.is("when 3", x.when(3), -1);
        Due.is("when -1", x.when(-1), -1);
    }

    private static void hour() {
        EmptyHouse x = Due.village("pha0-5 pha0-9 pha0-0a5-5 dAB:1:0dAC:1:0dBC:1:0dCA:1:0dAB:1:0");
        Due.told(x, "all are out: a ring of three", x.hour(0), 0x1F, 3);
        Due.told(x, "one of two alike", x.hour(1), 0x11, 1);
        Due.told(x, "none", x.hour(7), 0, 0);
        Due.told(x, "all again", x.hour(5), 0x1F, 3);
        x.pay(0, 5);
        Due.told(x, "whatever is paid", x.hour(5), 0x1F, 3);
        Due.is("hour 12", x.hour(12), -1);
        Due.is("hour -1", x.hour(-1), -1);
        Due.is("refused: asked stays", x.asked(), 3);
        EmptyHouse y = Due.village("pha0-0 pha0-0 pha0-0 dAC:1:0dBC:1:0");
        Due.told(y, "into one house but one", y.hour(0), 3, 1);
        EmptyHouse z = Due.village("pha0-0 pmAa0-0 plBa0-0 dCA:1:0dCB:1:0dAB:1:0");
        Due.told(z, "shared houses are two houses", z.hour(0), 7, 2);
    }

    private static EmptyHouse threePeople() {
        return Due.village("pha0-5 pha0-5 pha0-5 dAB:10:1dAC:20:2dBC:30:3dCB:40:4");
    }

    private static void judged(EmptyHouse x, int due, int told, int... hours) {
        Due.round(x, 2, hours);
        Due.told(x, "judge of " + java.util.Arrays.toString(hours), x.judge(2), due, told);
    }

    private static void judge() {
        EmptyHouse x = threePeople();
        judged(x, 0, 0, NONE, NONE, NONE, NONE);
        judged(x, 0, 0, 0, 1, 2, 3);
        judged(x, 0, 0, NONE, 1, NONE, 1);
        judged(x, 1, 0, 6, 7, 8, 9);
        judged(x, 1, 3, 0, 1, 2, 11);
        judged(x, 2, 1, 4, 4, NONE, NONE);
        judged(x, 3, 2, NONE, 4, 4, NONE);
        judged(x, 3, 3, 4, NONE, NONE, 4);
        judged(x, 2, 1, 4, 4, 4, 4);
        judged(x, 2, 1, 4, 4, 11, 4);
        judged(x, 1, 1, 4, 6, 4, 4);
        EmptyHouse y = Due.village("pha0-5 pha0-5 pha0-5 dAB:1:0dCB:1:0dAB:1:0dBA:1:0dCB:1:0");
        judged(y, 2, 2, 0, NONE, 0, NONE, NONE);
        judged(y, 3, 1, 0, 0, 0, NONE, NONE);
        judged(y, 3, 4, 0, 1, NONE, 0, 0);
        // Of one debt 2 comes ahead of 3, even where the same house is seen at an earlier debt.
        judged(y, 2, 4, 1, 2, NONE, NONE, 2);
        EmptyHouse z = Due.village("pha0-5 pha0-5 pha0-5 pha0-5 dAB:1:0dCD:1:0dCB:1:0");
        judged(z, 2, 2, 0, 0, 0);
        judged(z, 3, 2, 0, 1, 0);
    }

    /** "1, 2, 3 of one DEBT in this order", what is first amiss by debts, each at the later one of two. */
    private static void judgeOrder() {
        EmptyHouse houseFull = Due.village("pha0-5 pha0-5 ph dAB:1:0dAC:1:0");
        judged(houseFull, 1, 1, 0, 0);
        judged(houseFull, 1, 1, NONE, 0);
        EmptyHouse debtorIn = Due.village("pha0-5 pha0-5 ph dAB:1:0dCB:1:0");
        judged(debtorIn, 1, 1, 0, 0);
        EmptyHouse alike = Due.village("pha0-5 pha0-5 dAB:1:0dAB:1:0dAB:1:0");
        judged(alike, 2, 1, 0, 0, 0);
        judged(alike, 2, 2, 0, 1, 0);
        judged(alike, 2, 2, NONE, 1, 1);
        judged(alike, 0, 0, 5, 4, 3);
        judged(alike, 1, 0, 6, 6, 6);
        EmptyHouse three = Due.village("pha0-5 pha0-5 pha0-5 pha0-5 dAB:1:0dCB:1:0dDB:1:0dAC:1:0");
        judged(three, 3, 1, 0, 0, 11, 0);
        judged(three, 3, 2, 0, 1, 1, 0);
        judged(three, 3, 2, 0, 1, 0, 0);
        judged(three, 2, 3, 0, 1, 2, 0);
        judged(three, 1, 0, 11, 0, 0, 0);
        judged(three, 0, 0, 0, 1, 2, 3);
        // One may lay a sum in the hour in which a sum is laid into that one's house.
        judged(Due.village("pha0-5 pha0-5 dAB:1:0dBA:1:0"), 0, 0, 3, 3);
        EmptyHouse byLaw = Due.village("pha0-11 pka0-11 dAB:1:0");
        byLaw.law(1);
        judged(byLaw, 1, 0, 0);
        judged(byLaw, 0, 0, 11);
        byLaw.law(2);
        judged(byLaw, 1, 0, 7);
        judged(byLaw, 0, 0, 8);
        byLaw.law(0);
        byLaw.pay(0, 4);
        judged(byLaw, 0, 0, 4);
    }

    private static void judgeRefused() {
        EmptyHouse x = threePeople();
        Due.is("judge 6", x.judge(6), -1);
        Due.is("judge -1", x.judge(-1), -1);
        Due.finding(x, "judge of a missing one", x.judge(0), NOTHING);
        Due.round(x, 0, 0, 1, 2);
        Due.finding(x, "judge of three", x.judge(0), SIZE);
        Due.round(x, 0, 0, 1, 2, 3, 99);
        Due.finding(x, "judge of five", x.judge(0), SIZE);
        for (int bad : new int[] {12, -1, -8, -10, Integer.MAX_VALUE, Integer.MIN_VALUE}) {
            Due.round(x, 0, 11, 1, 2, bad);
            Due.finding(x, "judge with " + bad, x.judge(0), UNLIKE);
            Due.round(x, 0, bad, 1, 2, 3);
            Due.finding(x, "judge with " + bad + " first", x.judge(0), UNLIKE);
        }
    }

    private static void worth() {
        EmptyHouse x = threePeople();
        Due.round(x, 0, 1, 2, 3, 5);
        Due.told(x, "worth", x.worth(0), 11 + 24 + 39 + 60, 6);
        Due.round(x, 0, 0, NONE, 0, NONE);
        Due.told(x, "worth with none", x.worth(0), 10 + 44 + 30 + 88, 1);
        Due.round(x, 0, NONE, NONE, NONE, NONE);
        Due.told(x, "worth of none", x.worth(0), 22 + 44 + 66 + 88, 0);
        Due.round(x, 0, 4, 4, NONE, NONE);
        Due.finding(x, "worth of what can't be", x.worth(0), UNLIKE);
        Due.round(x, 0, 4, 12, NONE, NONE);
        Due.finding(x, "worth with no hour", x.worth(0), UNLIKE);
        Due.round(x, 0, 4);
        Due.finding(x, "worth of one", x.worth(0), SIZE);
        Due.finding(x, "worth of a missing one", x.worth(1), NOTHING);
        Due.is("worth 6", x.worth(6), -1);
        Due.is("worth -1", x.worth(-1), -1);
        Due.is("refused: asked stays", x.asked(), 0);
    }

    private static void worthOfWhatCannotBe() {
        EmptyHouse x = Due.village("pha0-5 pha0-5 pha0-5 dAB:1:0dCB:1:0dAC:1:0");
        int[][] rounds = {{6, NONE, NONE}, {0, NONE, 0}, {0, 0, NONE}, {NONE, NONE, 11}};
        for (int[] round : rounds) {
            Due.round(x, 0, round);
            Due.is("it can't be", x.judge(0) > 0 ? 1 : 0, 1);
            int told = x.asked();
            Due.finding(x, "worth of it", x.worth(0), UNLIKE);
            Due.is("asked behind it", x.asked(), told);
        }
        Due.is("each of them was told", x.findings(UNLIKE), rounds.length);
    }

    private static void best(EmptyHouse x, int paid, int costs, int... hours) {
        x.row(3, 60);
        Due.told(x, "best", x.best(3), paid, costs);
        for (int d = 0; d < hours.length; d++) {
            Due.told(x, "hour of debt " + d, x.at(3, d), 1, hours[d]);
        }
        Due.finding(x, "the row is just so long", x.at(3, hours.length), 2);
        Due.is("the best one can be so", x.judge(3), 0);
        Due.is("the best one costs so", x.worth(3), costs);
    }

    private static void best() {
        // More debts paid go ahead of costs.
        best(Due.village("pha0-0 pha0-0a11-11 pha11-11 dAB:1:9dBC:1:0"), 2, 2, 0, 11);
        // A out at 0 and 1: what bears more interest comes first.
        best(Due.village("pha0-1 pha0-1 pha0-1 dAB:5:1dAC:5:2"), 2, 11, 1, 0);
        // One hour for two of one debtor: the one of more interest.
        best(Due.village("pha3-3 pha3-3 pha3-3 dAB:50:1dAC:5:2"), 1, 62 + 11, NONE, 3);
        EmptyHouse x = Due.village("pha1-3 ph dAB:50:1");
        best(x, 0, 62, NONE);
        x.law(3);
        best(x, 1, 51, 1);
        x.pay(0, 2);
        best(x, 1, 51, 1);
        best(new EmptyHouse(), 0, 0);
        Due.is("best 6", x.best(6), -1);
        Due.is("best -1", x.best(-1), -1);
        Due.is("best makes a row", new EmptyHouse().best(5), 0);
    }

    private static void bestOfAlike() {
        // Without interest all is alike: in hour 0 nothing is least, then in hour 1, .. up to the last hour.
        best(Due.village("pha2-7 pha2-7 dAB:5:0"), 1, 5, 7);
        best(Due.village("pha2-7 pha2-7 pha2-7 dAB:5:0dAC:5:0"), 2, 10, 6, 7);
        best(Due.village("pha2-7 pha2-7 pha2-7 dAB:5:0dBC:5:0"), 2, 10, 7, 7);
        // Two alike ones with interest: the least set in hour 2 is that of debt 0.
        best(Due.village("pha2-7 pha2-7 pha2-7 dAB:5:3dAC:5:3"), 2, 10 + 6 + 9, 2, 3);
        // Only one can be paid: debt 1 alone in hour 4 is more than debt 0 alone.
        best(Due.village("pha4-4 pha4-4 dAB:5:3dAB:5:3"), 1, 5 + 12 + 5 + 36, 4, NONE);
    }

    /** Eight debts of one to one: the dearer the sooner, and no hour for more than one. */
    private static void roundsOfEight() {
        EmptyHouse x = Due.village("pha0-11pha0-11 dAB:1:1dAB:1:2dAB:1:3dAB:1:4dAB:1:5dAB:1:6dAB:1:7dAB:1:8");
        int costs = 8 + 7 + 2 * 6 + 3 * 5 + 4 * 4 + 5 * 3 + 6 * 2 + 7;
        best(x, 8, costs, 7, 6, 5, 4, 3, 2, 1, 0);
        Due.told(x, "soonest", x.soonest(), 8, costs);
        x.ways();
        Due.is("one way", x.upper(), 1);
        // Only the hours 8 to 11 are left: the four of most interest are paid.
        x.law(2);
        int late = 8 + 8 * 8 + 9 * 7 + 10 * 6 + 11 * 5 + 12 * (4 + 3 + 2 + 1);
        best(x, 4, late, NONE, NONE, NONE, NONE, 11, 10, 9, 8);
        Due.told(x, "soonest of four", x.soonest(), 12, late);
    }

    /** What was found for a greater village does not linger in a lesser one, nor the other way round. */
    private static void roundsOfAnotherVillage() {
        EmptyHouse x = Due.village("pha0-0 pha0-0 ph dAB:1:0dAC:1:9dCB:1:9");
        best(x, 1, 3 + 108 + 108, 0, NONE, NONE);
        Due.write(x, 0, "pha2-3 pha2-3 dAB:1:1");
        x.village(0);
        best(x, 1, 3, 2);
        Due.told(x, "soonest", x.soonest(), 3, 3);
        x.ways();
        Due.is("one way", x.upper(), 1);
        Due.told(x, "A at 0 is not worth it, nor is any other", x.call(), 0, -5);
        Due.write(x, 0, "");
        x.village(0);
        best(x, 0, 0);
        Due.write(x, 0, "pha0-0 pha0-0 ph dAB:1:0dAC:1:9dCB:1:9");
        x.village(0);
        best(x, 1, 3 + 108 + 108, 0, NONE, NONE);
    }

    private static void ways() {
        ways("", 1);
        ways("ph ph dAB:1:1", 1);
        ways("pha0-11 pha0-11 dAB:5:0", 12);
        ways("pha0-11 pha0-11 dAB:5:0dAB:5:0", 132);
        ways("pha0-11 pha0-11 dAB:5:0dBA:5:0", 144);
        ways("pha2-7 pha2-7 pha2-7 dAB:5:3dAC:5:3", 2);
        ways("pha4-4 pha4-4 dAB:5:3dAB:5:3", 2);
        ways("pha4-4 pha4-4 dAB:5:3dAB:5:2", 1);
        ways("pha0-11 pha0-11 pha0-11 pha0-11 pha0-11 pha0-11 dAB:1:0dBC:1:0dCD:1:0dDE:1:0dEF:1:0dFA:1:0", 2985984);
        ways("pha0-11 pha0-11 dAB:5:0dAB:5:0dAB:5:0dAB:5:0dAB:5:0dAB:5:0dAB:5:0dAB:5:0", 19958400);
        // AC goes neither with AB nor with BC, DF neither with DE nor with EF; CD and FA go with all.
        ways("pha0-11pha0-11pha0-11pha0-11pha0-11pha0-11 dAB:1:0dBC:1:0dCD:1:0dDE:1:0dEF:1:0dFA:1:0dAC:1:0dDF:1:0",
            12L * 12 * (12 * 11 * 11) * (12 * 11 * 11));
    }

    private static void ways(String village, long due) {
        EmptyHouse x = Due.village(village);
        Due.is("ways of " + village, x.ways(), 1);
        Due.is("upper of " + village, x.upper(), due);
        Due.is("lower of " + village, x.lower(), 1);
    }

    private static void soonest() {
        EmptyHouse none = new EmptyHouse();
        Due.told(none, "soonest of nothing", none.soonest(), 0, 0);
        EmptyHouse x = Due.village("ph ph dAB:1:1");
        Due.told(x, "soonest if none can be", x.soonest(), 0, 13);
        EmptyHouse y = Due.village("pha2-7 pha2-7 dAB:5:0");
        Due.told(y, "soonest without interest", y.soonest(), 3, 5);
        // The cheapest round pays A's debt to B in hour 3, C's in hour 4; a dearer one needs hour 3 alone.
        EmptyHouse z = Due.village("pha3-3 pha3-3a4-4 pha3-4 dAB:1:9dCB:1:0dAC:1:8");
        best(z, 2, 3 + 27 + 96, 3, 4, NONE);
        Due.told(z, "soonest", z.soonest(), 4, 3 + 108 + 24);
        EmptyHouse w = Due.village("pha0-2 pha0-1 pha0-0a2-2 dAB:1:3dAC:1:1dAB:1:3");
        Due.told(w, "three of one debtor", w.soonest(), 3, 3 + 3 + 2);
        // A pays B (5) at 0 or 1 and C (9) at 0 or 9: cheapest is C at 0, B at 1: both END at 2.
        EmptyHouse v = Due.village("pha0-1a9-9 pha0-1 pha0-0a9-9 dAB:1:5dAC:1:9");
        Due.told(v, "two", v.soonest(), 2, 2 + 5);
        v.law(2);
        Due.told(v, "by law 2", v.soonest(), 10, 1 + 60 + 1 + 81);
    }
}
