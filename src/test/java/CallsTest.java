/** Promises 26 to 31: rings, calls, staying in, debts set against one another, families. */
public final class CallsTest {
    private static final int NONE = EmptyHouse.NONE, STATE = EmptyHouse.STATE;

    public static void main(String[] args) {
        rings();
        few();
        fewRefused();
        call();
        callOfAlike();
        lastCallOfAll();
        stay();
        stayAtTheEdges();
        allEightDebts();
        stayChangesEarlierHours();
        against();
        againstChangesNothing();
        family();
        familyOfSix();
        Due.end();
    }

    private static void rings(String village, int people, int smallest) {
        EmptyHouse x = Due.village(village);
        Due.told(x, "rings of " + village, x.rings(), people, smallest);
    }

    private static void rings() {
        rings("", 0, 0);
        rings("phphph dAB:1:1dBC:1:1dAC:1:1", 0, 0);
        rings("phph dAB:1:1dBA:1:1", 3, 2);
        rings("phphph dAB:1:1dBC:1:1dCA:1:1", 7, 3);
        rings("phphphphphph dAB:1:1dBC:1:1dCD:1:1dDE:1:1dEF:1:1dFA:1:1", 63, 6);
        rings("phphphphphph dAB:1:1dBC:1:1dCD:1:1dDE:1:1dEF:1:1dFB:1:1", 62, 5);
        rings("phphphphphph dAB:1:1dBC:1:1dCA:1:1dCD:1:1dEF:1:1dFE:1:1", 0x37, 2);
        rings("phphphph dAB:1:1dBA:1:1dBC:1:1dCD:1:1", 3, 2);
        EmptyHouse x = Due.village("pha0-0pha0-0 dAB:1:1dBA:1:1");
        x.pay(0, 0);
        Due.told(x, "paid or not", x.rings(), 3, 2);
    }

    private static void few(EmptyHouse x, int t, int n, int due, int who) {
        Due.told(x, "few(" + t + ", " + n + ")", x.few(t, n), due, who);
    }

    private static void few() {
        EmptyHouse x = Due.village("pha3-3 ph psa3-3 pmB plA dAB:1:1dCB:1:1dAD:1:1dAE:1:1dBA:1:1dBC:1:1");
        few(x, 3, 1, 0, 0);
        few(x, 0, 1, 1, 1);
        few(x, 3, 2, 1, 2);
        few(x, 3, 3, 1, 2);
        few(x, 0, 2, 2, 3);
        few(x, 0, 3, 3, 7);
        int told = x.asked();
        Due.told(x, "few of four: only A and B and C owe", x.few(3, 4), NONE, told);
        x.law(3);
        few(x, 3, 1, 0, 0);
        x.law(2);
        Due.told(x, "by law 2 ahead of hour 8", x.few(7, 1), NONE, 0);
        few(x, 8, 1, 1, 1);
        // By law 3 who is out makes a house full: B's is empty only as long as B is in.
        EmptyHouse y = Due.village("phph dAB:1:1dBA:1:1");
        y.law(3);
        few(y, 0, 1, 1, 1);
        Due.told(y, "by law 3 never two", y.few(0, 2), NONE, 1);
        y.habit(0, 0, 1);
        y.habit(1, 0, 1);
        Due.told(y, "those who are out stay so", y.few(0, 1), NONE, 1);
        EmptyHouse z = Due.village("pk py ph dCA:1:1dCB:1:1");
        z.law(1);
        Due.told(z, "dogs are in", z.few(4, 1), NONE, 0);
        few(z, 5, 1, 2, 5);
        String ring = "phphphphphph dAB:1:1dBC:1:1dCD:1:1dDE:1:1dEF:1:1dFA:1:1";
        few(Due.village(ring), 11, 6, 6, 63);
        few(Due.village(ring), 11, 5, 6, 63);
        few(Due.village(ring), 11, 4, 5, 31);
        // Of as few ones the least bits.
        few(Due.village("phphphph dCD:1:1dAD:1:1dBD:1:1"), 11, 1, 2, 9);
    }

    private static void fewRefused() {
        EmptyHouse x = Due.village("phph dAB:1:1");
        Due.is("hour 12", x.few(12, 1), -1);
        Due.is("hour -1", x.few(-1, 1), -1);
        Due.is("none", x.few(0, 0), -1);
        Due.is("nine", x.few(0, 9), -1);
        Due.is("below none", x.few(0, -1), -1);
        Due.is("eight", x.few(0, 8), NONE);
        Due.is("no people", new EmptyHouse().few(0, 1), NONE);
    }

    private static void call() {
        EmptyHouse none = new EmptyHouse();
        Due.told(none, "no people", none.call(), NONE, 0);
        EmptyHouse all = Due.village("pha0-11 pha0-11 dAB:1:1");
        Due.told(all, "all are out always", all.call(), NONE, 0);
        EmptyHouse x = Due.village("pha4-4 ph dAB:10:2");
        Due.told(x, "B at 4", x.call(), 104, 24 - 8 - 5);
        x.cards(1, 99);
        Due.told(x, "even if it costs more: more are paid", x.call(), 104, 16 - 99);
        x.habit(1, 4, 1);
        Due.told(x, "one is paid anyhow: A at 0 costs 5 for nothing", x.call(), 0, -5);
        x.cards(0, 0);
        Due.told(x, "for nothing", x.call(), 0, 0);
        x.habit(1, 1, 1);
        Due.told(x, "A at 1 rather than at 4", x.call(), 1, 6);
        // B's hours 0 and 3 are as they were for all other hours: A pays B in 0, the call lets C pay B in 3.
        EmptyHouse w = Due.village("pha0-0 pha0-0a3-3 pha4-4 dAB:1:2dCB:1:2");
        Due.told(w, "C at 3", w.call(), 203, 24 - 6 - 5);
        EmptyHouse v = Due.village("pha0-0a6-6 pha0-0 pha3-3a6-6 dAB:1:9dAC:1:9");
        Due.told(v, "A at 3 rather than at 6", v.call(), 3, 27 - 5);
        long before = x.digest();
        x.call();
        Due.is("a call changes nothing", x.digest() == before ? 1 : 0, 1);
        // By law 3 a call can do harm; that one is chosen which does none.
        EmptyHouse y = Due.village("pha0-0 ph dAB:10:2");
        y.law(3);
        y.cards(0, 50);
        Due.told(y, "B at 1", y.call(), 101, -5);
    }

    private static void callOfAlike() {
        // A at 3 and B at 2 would do alike: the person goes ahead of the hour.
        EmptyHouse x = Due.village("pha2-2 pha3-3 pha2-3 dAC:1:0dBC:1:0dBC:1:0dAC:1:0");
        x.cards(2, 9);
        Due.told(x, "alike", x.call(), 0, -5);
        EmptyHouse y = Due.village("pha2-2 pha3-3 dAB:1:0");
        Due.told(y, "A at 3 ahead of B at 2", y.call(), 3, -5);
        y.cards(0, 6);
        Due.told(y, "B at 2 is cheaper", y.call(), 102, -5);
    }

    private static void lastCallOfAll() {
        EmptyHouse x = Due.village("pha0-11pha0-11pha0-11pha0-11pha0-11pha0-10 dAF:9:1");
        Due.told(x, "F at 11 is the only call", x.call(), 511, -5);
        x.cards(5, 0);
        Due.told(x, "for nothing", x.call(), 511, 0);
        x.cards(5, 99);
        Due.told(x, "for all cards there are", x.call(), 511, -99);
        x.habit(5, 11, 1);
        Due.told(x, "there is no such call any more", x.call(), NONE, -99);
        EmptyHouse y = Due.village("ph");
        Due.told(y, "a call though there are no debts", y.call(), 0, -5);
        // More debts paid go ahead of costs and cards: B at 11 pays one more than A, whose call is for nothing.
        EmptyHouse z = Due.village("pha11-11 ph dAB:1:9");
        z.cards(0, 0);
        z.cards(1, 99);
        Due.told(z, "B at 11", z.call(), 111, 9 - 99);
    }

    private static void stayAtTheEdges() {
        EmptyHouse x = Due.village("pha0-11 pha11-11 dAB:10:3");
        Due.told(x, "in at 11, paid nothing", x.stay(1), 11, -43);
        EmptyHouse y = Due.village("pha0-11 pha0-0a11-11 dAB:10:9");
        Due.told(y, "in at 0, paid at 11", y.stay(1), 0, 99);
        EmptyHouse z = Due.village("ph pha3-3a7-7");
        Due.told(z, "of alike ones the first", z.stay(1), 3, 0);
        Due.told(z, "one who is never out", z.stay(0), NONE, 0);
        // Staying in at 2 or at 4 leaves what B is paid as it is; at 3 it is paid later.
        EmptyHouse w = Due.village("pha3-3a5-5 pha2-5 dAB:10:1");
        Due.told(w, "in at 3 rather than at 2", w.stay(1), 3, 2);
        w.pay(0, 3);
        Due.told(w, "whatever is paid", w.stay(1), 3, 2);
    }

    /** A owes B eight sums, of interest 1 to 8, and lays one in an hour: the dearer the sooner, from hour 1 on. */
    private static void allEightDebts() {
        EmptyHouse x = Due.village("pha1-11pha0-11 dAB:1:1dAB:1:2dAB:1:3dAB:1:4dAB:1:5dAB:1:6dAB:1:7dAB:1:8");
        Due.told(x, "A at 0: each comes an hour sooner", x.call(), 0, 36 - 5);
        x.cards(0, 40);
        Due.told(x, "all the same, though it costs more than it saves", x.call(), 0, 36 - 40);
        // In at 1 all eight come an hour later; in at a later hour only those from that hour on.
        Due.told(x, "B in at 1", x.stay(1), 1, 36);
        x.habit(1, 1, 0);
        Due.told(x, "B in at 2", x.stay(1), 2, 36);
        x.habit(1, 11, 0);
        Due.told(x, "B in at 2, out until 10", x.stay(1), 2, 36);
        // Eight sums have only eight hours left now: in at 2 B goes without the one of interest 1, that is 1 and 9.
        x.habit(1, 10, 0);
        Due.told(x, "B in at 2, seven of eight", x.stay(1), 2, 35 - 10);
    }

    /** B in at 3 must lay B's own sum at C's in 5, so D lays C's in 1 and B's only in 5. */
    private static void stayChangesEarlierHours() {
        EmptyHouse x = Due.village("pha1-1 plAa3-3a5-5 pha1-1a3-3a5-5 pha1-1a5-5 dDB:10:3dDC:10:1dBC:10:1");
        Due.told(x, "B in at 3", x.stay(1), 3, 4 * 3);
        x.habit(1, 3, 0);
        x.best(0);
        Due.told(x, "D pays B in 5", x.at(0, 0), 1, 5);
        Due.told(x, "D pays C in 1", x.at(0, 1), 1, 1);
        Due.told(x, "B pays C in 5", x.at(0, 2), 1, 5);
    }

    private static void stay() {
        EmptyHouse x = Due.village("pha0-11 pha2-2a5-5 dAB:10:3");
        Due.told(x, "paid at 5 instead of 2", x.stay(1), 2, 9);
        Due.told(x, "A is paid nothing", x.stay(0), 0, 0);
        x.habit(1, 5, 0);
        Due.told(x, "perhaps below 0", x.stay(1), 2, -16);
        x.habit(1, 2, 0);
        Due.told(x, "out in none", x.stay(1), NONE, -16);
        Due.is("stay 2", x.stay(2), -1);
        Due.is("stay -1", x.stay(-1), -1);
        x.law(3);
        x.habit(1, 4, 1);
        Due.told(x, "by law 3 B is paid while in", x.stay(1), 4, 0);
        // At each of two hours B is paid once; staying in at one of them leaves only the other one.
        EmptyHouse u = Due.village("pha0-8 pha1-1a4-4a8-8 pha0-8 dAB:10:1dCB:10:2");
        Due.told(u, "hour 1: 4 and 8 instead of 1 and 4", u.stay(1), 1, 8 + 4 * 2 - 4 - 2);
        Due.told(u, "nobody owes A", u.stay(0), 0, 0);
        // C pays B either at 1 or at 3; whether B stays in at 1 or at 3 decides.
        EmptyHouse y = Due.village("pha1-1a3-3 pha1-3 pha1-1a3-3 dAB:9:1dCB:9:2");
        Due.told(y, "the last of them", y.stay(1), 2, 0);
        // Which of two alike rounds is the best one decides what B is paid: debt 0 (9) comes in hour 0.
        EmptyHouse z = Due.village("pha0-0 pha0-1 pha0-0 dAB:9:1dAC:5:1");
        Due.told(z, "hour 1 costs B nothing", z.stay(1), 1, 0);
        Due.told(z, "C gets it then, B not", z.stay(2), 0, 0);
        long before = z.digest();
        z.stay(1);
        Due.is("staying in changes nothing", z.digest() == before ? 1 : 0, 1);
    }

    private static void against() {
        EmptyHouse x = Due.village("pha0-3 pha0-3 ph dAB:10:9dBA:30:0dBA:10:1dBC:7:1dAB:1:1");
        Due.told(x, "10 against 30", x.against(0, 1), 20, 1);
        Due.told(x, "30 against 10", x.against(1, 0), 20, 1);
        Due.told(x, "10 against 10", x.against(0, 2), 0, NONE);
        Due.told(x, "10 against 1", x.against(2, 4), 9, 1);
        Due.told(x, "1 against 30", x.against(4, 1), 29, 1);
        Due.is("not owed back", x.against(0, 3), STATE);
        Due.is("the same way", x.against(0, 4), STATE);
        Due.is("alike", x.against(0, 0), -1);
        Due.is("debt 5", x.against(0, 5), -1);
        Due.is("debt -1", x.against(0, -1), -1);
        Due.is("debt 5 first", x.against(5, 0), -1);
        Due.is("debt -1 first", x.against(-1, 0), -1);
        x.pay(1, 0);
        Due.is("paid second", x.against(0, 1), STATE);
        Due.is("paid first", x.against(1, 0), STATE);
        Due.told(x, "the other one is not", x.against(0, 2), 0, NONE);
        x.unpay(1);
        Due.told(x, "paid no more", x.against(0, 1), 20, 1);
        EmptyHouse y = Due.village("ph ph dAB:31:0dBA:30:0");
        Due.told(y, "31 against 30", y.against(0, 1), 1, 0);
    }

    private static void family() {
        EmptyHouse x = Due.village("pha0-4 psa3-9 pma4-4".replace("pma", "pmAa"));
        Due.told(x, "A", x.family(1), 0x01F, 5);
        Due.told(x, "A B", x.family(3), 0x018, 2);
        Due.told(x, "B", x.family(2), 0x3F8, 7);
        Due.told(x, "all", x.family(7), 0x010, 1);
        x.law(3);
        Due.told(x, "whatever the law", x.family(7), 0x010, 1);
        x.habit(2, 4, 0);
        Due.told(x, "never all out", x.family(7), 0, 0);
        Due.is("none in it", x.family(0), -1);
        Due.is("somebody else", x.family(8), -1);
        Due.is("somebody else, too", x.family(9), -1);
        Due.is("below 0", x.family(-1), -1);
        Due.is("the least int", x.family(Integer.MIN_VALUE), -1);
        Due.is("the greatest int", x.family(Integer.MAX_VALUE), -1);
    }

    private static void againstChangesNothing() {
        EmptyHouse x = Due.village("pha0-3 pha0-3 dAB:99:9dBA:1:0");
        long before = x.digest();
        Due.told(x, "99 against 1", x.against(0, 1), 98, 0);
        Due.told(x, "1 against 99", x.against(1, 0), 98, 0);
        Due.is("nothing is changed", x.digest() == before ? 1 : 0, 1);
        Due.told(x, "the debt is as it was", x.debt(0, 2), 1, 99);
        EmptyHouse y = Due.village("phphph dAB:1:1dBC:1:1dCA:1:1dAC:1:1");
        Due.is("the next one of a ring of three", y.against(0, 1), STATE);
        Due.is("to the same one", y.against(1, 3), STATE);
        Due.is("of the same one", y.against(0, 3), STATE);
        Due.told(y, "C and A", y.against(2, 3), 0, NONE);
    }

    private static void familyOfSix() {
        EmptyHouse x = Due.village("pha0-11pha0-11pha0-11pha0-11pha0-11pha0-0a11-11");
        Due.told(x, "all six", x.family(63), 0x801, 2);
        Due.told(x, "five", x.family(31), 0xFFF, 12);
        Due.told(x, "the sixth", x.family(32), 0x801, 2);
        Due.is("a seventh", x.family(64), -1);
        Due.is("a seventh with the sixth", x.family(96), -1);
    }
}
