/** Promises 32 to 38: payments, kept books, and what a book proves. */
public final class BooksTest {
    private static final int NOTHING = 1, UNLIKE = 3, SIZE = 5;
    private static final int NONE = EmptyHouse.NONE, STATE = EmptyHouse.STATE;

    public static void main(String[] args) {
        pay();
        unpay();
        paid();
        keepAndOn();
        threePlaces();
        payByWhatWasPaid();
        must();
        mustRefused();
        liars();
        Due.end();
    }

    private static EmptyHouse threePeople() {
        return Due.village("pha0-5 pha0-5 pha0-5 dAB:10:1dAC:20:2dBC:30:3dCB:40:4");
    }

    private static void pay() {
        EmptyHouse x = threePeople();
        Due.is("pay", x.pay(0, 5), 15);
        Due.is("paid already", x.pay(0, 4), STATE);
        Due.is("its debtor lays another one", x.pay(1, 5), STATE);
        Due.is("into that house another one", x.pay(3, 5), STATE);
        Due.is("neither", x.pay(2, 5), 45);
        Due.is("in another hour", x.pay(1, 0), 20);
        Due.is("nobody is out", x.pay(3, 6), STATE);
        x.law(2);
        Due.is("by law 2", x.pay(3, 4), STATE);
        x.law(0);
        x.habit(2, 4, 0);
        Due.is("the debtor is in", x.pay(3, 4), STATE);
        x.habit(2, 4, 1);
        x.habit(1, 4, 0);
        Due.is("the house is full", x.pay(3, 4), STATE);
        Due.is("hour 3", x.pay(3, 3), 52);
        Due.is("debt 4", x.pay(4, 0), -1);
        Due.is("debt -1", x.pay(-1, 0), -1);
        Due.is("hour 12", x.pay(0, 12), -1);
        Due.is("hour -1", x.pay(0, -1), -1);
        Due.is("none as an hour", x.pay(0, NONE), -1);
        Due.is("paid", x.count(2), 4);
    }

    private static void unpay() {
        EmptyHouse x = threePeople();
        Due.is("not paid", x.unpay(0), STATE);
        x.pay(0, 0);
        x.pay(1, 3);
        Due.is("unpay hour 0", x.unpay(0), 0);
        Due.is("unpay twice", x.unpay(0), STATE);
        Due.is("the other one is paid still", x.count(2), 1);
        Due.is("its hour is free again", x.pay(1, 0), STATE);
        Due.is("unpay hour 3", x.unpay(1), 3);
        Due.is("pay anew", x.pay(1, 0), 20);
        Due.is("debt 4", x.unpay(4), -1);
        Due.is("debt -1", x.unpay(-1), -1);
        x.habit(0, 0, 0);
        Due.is("whatever the habits are now", x.unpay(1), 0);
    }

    private static void paid() {
        EmptyHouse x = threePeople();
        Due.told(x, "nothing", x.paid(), 0, 22 + 44 + 66 + 88);
        x.pay(0, 5);
        x.pay(3, 0);
        Due.told(x, "two", x.paid(), 15 + 40, 44 + 66);
        x.unpay(0);
        Due.told(x, "one", x.paid(), 40, 22 + 44 + 66);
    }

    private static void keepAndOn() {
        EmptyHouse x = threePeople();
        Due.is("keep nothing", x.keep(1), 0);
        x.pay(0, 5);
        x.pay(2, 4);
        Due.is("keep two", x.keep(2), 2);
        Due.is("on nothing", x.on(1), 0);
        Due.told(x, "not paid", x.debt(0, 4), 1, NONE);
        Due.is("on two", x.on(2), 2);
        Due.told(x, "paid in 5", x.debt(0, 4), 1, 5);
        Due.told(x, "paid in 4", x.debt(2, 4), 1, 4);
        x.unpay(2);
        Due.is("a kept one stays as it was", x.on(2), 2);
        x.unpay(0);
        Due.is("keep over it", x.keep(2), 1);
        Due.is("on over it", x.on(2), 1);
        Due.told(x, "as it was kept last", x.debt(0, 4), 1, NONE);
        Due.finding(x, "on a missing one", x.on(0), NOTHING);
        Due.is("keep 3", x.keep(3), -1);
        Due.is("keep -1", x.keep(-1), -1);
        Due.is("on 3", x.on(3), -1);
        Due.is("on -1", x.on(-1), -1);
        x.habit(1, 4, 0);
        Due.is("whatever the habits are now", x.on(2), 1);
        Due.is("kept", x.count(5), 2);
    }

    /** Each place keeps a book of its own; on() brings all of it back, and undoes what was paid behind it. */
    private static void threePlaces() {
        EmptyHouse x = threePeople();
        for (int k = 0; k < 3; k++) {
            Due.is("keep in " + k, x.keep(k), k);
            Due.is("kept so far", x.count(5), k + 1);
            x.pay(k, k);
        }
        for (int k = 2; k >= 0; k--) {
            Due.is("on from " + k, x.on(k), k);
            for (int d = 0; d < 4; d++) {
                Due.told(x, "debt " + d + " from place " + k, x.debt(d, 4), 1, d < k ? d : NONE);
            }
        }
        Due.is("on keeps what is kept", x.count(5), 3);
        Due.is("on from 2 again", x.on(2), 2);
        x.law(2);
        x.habit(0, 0, 0);
        Due.is("whatever law and habits are now", x.on(2), 2);
        Due.told(x, "paid in 0 by one who is in", x.debt(0, 4), 1, 0);
        Due.told(x, "what is paid costs as it did", x.paid(), 10 + 22, 66 + 88);
    }

    /** "By what was PAID in that HOUR": neither two sums of one, nor two into one house; all else goes. */
    private static void payByWhatWasPaid() {
        EmptyHouse x = Due.village("pha0-11pha0-11pha0-11 dAB:1:0dAC:1:0dCB:1:0dBA:1:0dCA:1:0");
        for (int t = 0; t < 12; t++) {
            Due.is("A to B in " + t, x.pay(0, t), 1);
            Due.is("A to C in " + t, x.pay(1, t), STATE);
            Due.is("C to B in " + t, x.pay(2, t), STATE);
            Due.is("A to C in another hour", x.pay(1, (t + 1) % 12), 1);
            Due.is("B to A in " + t, x.pay(3, t), 1);
            Due.is("C to A in " + t + ", where B's is", x.pay(4, t), STATE);
            Due.is("A to B is not paid any more", x.unpay(0), t);
            Due.is("C to B in " + t + " now", x.pay(2, t), 1);
            Due.is("A to B in " + t + " not now", x.pay(0, t), STATE);
            for (int d = 1; d < 4; d++) {
                Due.is("unpay " + d, x.unpay(d), d == 1 ? (t + 1) % 12 : t);
            }
            Due.is("nothing is paid", x.count(2), 0);
        }
    }

    private static EmptyHouse sixHouses() {
        return Due.village("ph pk ps pmA plB py dAB:1:1dAC:1:1dBD:1:1dCE:1:1dDF:1:1dFA:1:1");
    }

    private static void must() {
        EmptyHouse x = sixHouses();
        Due.round(x, 0, 0, 1, 2, 3, 4, 5);
        // A pays in 0 and 1, is paid in 5, and shares the house into which a sum was laid in 2.
        int[] proven = {0x27, 0x05, 0x08, 0x14, 0, 0x30};
        int[] owing = {0x03, 0x04, 0x08, 0x10, 0, 0x20};
        for (int law = 0; law < 4; law++) {
            x.law(law);
            for (int p = 0; p < 6; p++) {
                Due.is("law " + law + ": must " + p, x.must(0, p), law == 3 ? owing[p] : proven[p]);
            }
        }
        Due.round(x, 0, 11, 11, NONE, NONE, NONE, NONE);
        x.law(0);
        Due.is("whether it can be or not", x.must(0, 0), 0x800);
        Due.is("a kennel", x.must(0, 1), 0x800);
        Due.is("a sickroom", x.must(0, 2), 0);
        Due.is("none", x.must(0, 5), 0);
    }

    private static void mustRefused() {
        EmptyHouse x = sixHouses();
        Due.is("must 6", x.must(6, 0), -1);
        Due.is("must -1", x.must(-1, 0), -1);
        Due.is("must of 6", x.must(0, 6), -1);
        Due.is("must of -1", x.must(0, -1), -1);
        Due.finding(x, "missing", x.must(0, 0), NOTHING);
        Due.round(x, 0, 12);
        Due.finding(x, "of one", x.must(0, 0), SIZE);
        Due.finding(x, "liars of one", x.liars(0), SIZE);
        Due.round(x, 0, 0, 0, 0, 0, 0, 12);
        Due.finding(x, "no hour", x.must(0, 0), UNLIKE);
        Due.finding(x, "liars with no hour", x.liars(0), UNLIKE);
        Due.is("liars 6", x.liars(6), -1);
        Due.is("liars -1", x.liars(-1), -1);
        Due.finding(x, "liars of a missing one", x.liars(1), NOTHING);
    }

    private static void liars() {
        EmptyHouse x = sixHouses();
        Due.round(x, 0, 0, 1, 2, 3, 4, 5);
        Due.told(x, "nobody is ever out", x.liars(0), 0x2F, 4 + 2 + 1 + 2 + 2);
        x.habit(2, 3, 1);
        x.habit(0, 5, 1);
        x.habit(0, 6, 1);
        Due.told(x, "C fits", x.liars(0), 0x2B, 3 + 2 + 2 + 2);
        x.law(3);
        Due.told(x, "by law 3", x.liars(0), 0x2B, 2 + 1 + 1 + 1);
        Due.round(x, 0, NONE, NONE, NONE, NONE, NONE, NONE);
        Due.told(x, "none told", x.liars(0), 0, 0);
    }
}
