import java.util.function.IntBinaryOperator;
import java.util.function.Supplier;

/**
 * The least and the greatest of each number that a call takes: all from the one to the other are taken, what lies
 * below or above is refused as the document tells, up to the ends of int.
 */
public final class EdgesTest {
    private static final int BAD = EmptyHouse.BAD, NONE = EmptyHouse.NONE;
    // Findings are told by their numbers here, BAD by its own: none of them is alike.
    private static final int NOTHING = 1, BEYOND = 2, UNLIKE = 3, SIZE = 5;

    private interface Call {
        int made(EmptyHouse x, int number);
    }

    public static void main(String[] args) {
        rows();
        texts();
        village();
        hoursAndRounds();
        callsAndBooks();
        manyCalls();
        Due.end();
    }

    private static void edges(String name, Supplier<EmptyHouse> state, int least, int greatest, int below, int above,
            Call call) {
        for (int number = least; number <= greatest; number++) {
            int answer = call.made(state.get(), number);
            boolean taken = answer >= 0 || answer == NONE;
            Due.is(name + " " + number + " is taken (it answered " + answer + ")", taken ? 1 : 0, 1);
        }
        for (int number : new int[] {Integer.MIN_VALUE, Integer.MIN_VALUE + 1, least - 2, least - 1}) {
            outside(name, state.get(), number, below, call);
        }
        for (int number : new int[] {greatest + 1, greatest + 2, Integer.MAX_VALUE - 1, Integer.MAX_VALUE}) {
            outside(name, state.get(), number, above, call);
        }
    }

    private static void outside(String name, EmptyHouse x, int number, int due, Call call) {
        if (due == BAD) {
            Due.is(name + " " + number, call.made(x, number), BAD);
            Due.is("no finding behind " + name + " " + number, x.finding(), 0);
        } else {
            Due.finding(x, name + " " + number, call.made(x, number), due);
        }
    }

    private static void edges(String name, Supplier<EmptyHouse> state, int least, int greatest, Call call) {
        edges(name, state, least, greatest, BAD, BAD, call);
    }

    private static EmptyHouse fullRows() {
        EmptyHouse x = new EmptyHouse();
        for (int r = 0; r < 6; r++) {
            x.row(r, 60);
        }
        return x;
    }

    private static EmptyHouse fullTexts() {
        EmptyHouse x = new EmptyHouse();
        for (int t = 0; t < 4; t++) {
            x.text(t, 120);
        }
        return x;
    }

    /** Six people of all kinds who are always out, eight debts, a round in each row. */
    private static EmptyHouse fullVillage() {
        EmptyHouse x = Due.village("pha0-11pka0-11pya0-11pmAa0-11plBa0-11psa0-11 "
            + "dAB:1:1dBA:1:1dBC:1:1dCB:1:1dCD:1:1dDC:1:1dDE:1:1dED:1:1");
        for (int r = 0; r < 6; r++) {
            Due.round(x, r, NONE, NONE, NONE, NONE, NONE, NONE, NONE, NONE);
        }
        return x;
    }

    private static void rows() {
        edges("row", EmptyHouse::new, 0, 5, (x, r) -> x.row(r, 60));
        edges("row of", EmptyHouse::new, 0, 60, SIZE, BAD, (x, n) -> x.row(0, n));
        edges("lay in row", EdgesTest::fullRows, 0, 5, (x, r) -> x.lay(r, 0, 1));
        edges("lay at", EdgesTest::fullRows, 0, 59, BEYOND, BEYOND, (x, i) -> x.lay(5, i, 1));
        edges("at in row", EdgesTest::fullRows, 0, 5, (x, r) -> x.at(r, 0));
        edges("at", EdgesTest::fullRows, 0, 59, BEYOND, BEYOND, (x, i) -> x.at(5, i));
        edges("tear row", EdgesTest::fullRows, 0, 5, EmptyHouse::tear);
        edges("copy from row", EdgesTest::fullRows, 0, 5, (x, r) -> x.copy(r, 0, 0, 0, 60));
        edges("copy to row", EdgesTest::fullRows, 0, 5, (x, r) -> x.copy(0, 0, r, 0, 60));
        edges("copy one from", EdgesTest::fullRows, 0, 59, BEYOND, BEYOND, (x, i) -> x.copy(0, i, 1, 0, 1));
        edges("copy one to", EdgesTest::fullRows, 0, 59, BEYOND, BEYOND, (x, j) -> x.copy(0, 0, 1, j, 1));
        edges("copy none from", EdgesTest::fullRows, 0, 60, BEYOND, BEYOND, (x, i) -> x.copy(0, i, 1, 0, 0));
        edges("copy none to", EdgesTest::fullRows, 0, 60, BEYOND, BEYOND, (x, j) -> x.copy(0, 0, 1, j, 0));
        edges("copy as many", EdgesTest::fullRows, 0, 60, SIZE, BEYOND, (x, n) -> x.copy(0, 0, 1, 0, n));
        edges("copy as many from 59", EdgesTest::fullRows, 0, 1, SIZE, BEYOND, (x, n) -> x.copy(0, 59, 1, 0, n));
        edges("copy as many to 59", EdgesTest::fullRows, 0, 1, SIZE, BEYOND, (x, n) -> x.copy(0, 0, 1, 59, n));
        edges("mean of row", EdgesTest::fullRows, 0, 5, EmptyHouse::mean);
        anyInt();
    }

    private static void anyInt() {
        EmptyHouse x = fullRows();
        for (int v : new int[] {Integer.MIN_VALUE, -10, NONE, -1, 0, 1, Integer.MAX_VALUE}) {
            Due.is("a row takes any int", x.lay(5, 59, v), 1);
            Due.told(x, "what was laid", x.at(5, 59), 1, v);
        }
    }

    private static void texts() {
        edges("text", EmptyHouse::new, 0, 3, (x, t) -> x.text(t, 120));
        edges("text of", EmptyHouse::new, 0, 120, SIZE, BAD, (x, n) -> x.text(0, n));
        edges("put in text", EdgesTest::fullTexts, 0, 3, (x, t) -> x.put(t, 0, 1));
        edges("put at", EdgesTest::fullTexts, 0, 119, BEYOND, BEYOND, (x, i) -> x.put(3, i, 1));
        edges("fault of text", EdgesTest::fullTexts, 0, 3, EmptyHouse::fault);
        edges("village by text", EdgesTest::fullTexts, 0, 3, EmptyHouse::village);
    }

    private static void village() {
        edges("one", EdgesTest::fullVillage, 0, 5, (x, p) -> x.one(p, 0));
        edges("what of one", EdgesTest::fullVillage, 0, 3, (x, what) -> x.one(5, what));
        edges("mark of", () -> Due.village("pkpypkpypkpy"), 0, 5, (x, p) -> x.mark(p, 1));
        edges("kind to mark", EdgesTest::fullVillage, 1, 5, EdgesTest::markByKind);
        edges("debt", EdgesTest::fullVillage, 0, 7, (x, d) -> x.debt(d, 0));
        edges("what of a debt", EdgesTest::fullVillage, 0, 4, (x, what) -> x.debt(7, what));
        edges("law", EmptyHouse::new, 0, 3, EmptyHouse::law);
        edges("cards of", EdgesTest::fullVillage, 0, 5, (x, p) -> x.cards(p, 99));
        edges("cards", EdgesTest::fullVillage, 0, 99, (x, v) -> x.cards(5, v));
        edges("habit of", EdgesTest::fullVillage, 0, 5, (x, p) -> x.habit(p, 11, 0));
        edges("habit in hour", EdgesTest::fullVillage, 0, 11, (x, t) -> x.habit(5, t, 0));
        edges("habit is", EdgesTest::fullVillage, 0, 1, (x, is) -> x.habit(5, 11, is));
        ofNobody();
    }

    private static int markByKind(EmptyHouse x, int kind) {
        int[] houses = {0, 1, 5, 3, 4, 2};
        return x.mark(kind >= 1 && kind <= 5 ? houses[kind] : 0, kind);
    }

    private static void ofNobody() {
        EmptyHouse none = new EmptyHouse();
        IntBinaryOperator[] ofNobody = {(p, k) -> none.one(p, k), (p, k) -> none.mark(p, k + 1),
            (p, k) -> none.debt(p, k), (p, k) -> none.cards(p, k), (p, k) -> none.habit(p, k, 1),
            (p, k) -> none.empty(p), (p, k) -> none.when(p), (p, k) -> none.stay(p), (p, k) -> none.against(p, k + 1),
            (p, k) -> none.family(1 << p), (p, k) -> none.pay(p, k), (p, k) -> none.unpay(p),
            (p, k) -> none.must(k, p)};
        for (int i = 0; i < ofNobody.length; i++) {
            Due.is("there is nobody, no debt: call " + i, ofNobody[i].applyAsInt(0, 0), BAD);
        }
    }

    private static void hoursAndRounds() {
        edges("empty", EdgesTest::fullVillage, 0, 5, EmptyHouse::empty);
        edges("when", EdgesTest::fullVillage, 0, 7, EmptyHouse::when);
        edges("hour", EdgesTest::fullVillage, 0, 11, EmptyHouse::hour);
        edges("judge of row", EdgesTest::fullVillage, 0, 5, EmptyHouse::judge);
        edges("worth of row", EdgesTest::fullVillage, 0, 5, EmptyHouse::worth);
        edges("best to row", EdgesTest::fullVillage, 0, 5, EmptyHouse::best);
        edges("best to a missing row", EmptyHouse::new, 0, 5, EmptyHouse::best);
        hoursIn("judge", EmptyHouse::judge);
        hoursIn("worth", EmptyHouse::worth);
        hoursIn("liars", EmptyHouse::liars);
        hoursIn("must", (x, r) -> x.must(r, 3));
        sizes();
    }

    /** The hours that a round in row 5 takes. */
    private static void hoursIn(String name, Call call) {
        Call last = (x, t) -> {
            x.lay(5, 7, t);
            return call.made(x, 5);
        };
        edges(name + " with hour", EdgesTest::fullVillage, 0, 11, UNLIKE, UNLIKE, last);
        edges(name + " with NONE", EdgesTest::fullVillage, NONE, NONE, UNLIKE, UNLIKE, last);
    }

    private static void sizes() {
        for (int size = 0; size <= 60; size++) {
            EmptyHouse x = fullVillage();
            x.row(2, size);
            for (int i = 0; i < size; i++) {
                x.lay(2, i, NONE);
            }
            Due.is("judge of a row of " + size, x.judge(2), size == 8 ? 0 : EmptyHouse.FINDING);
            Due.is("finding of a row of " + size, x.finding(), size == 8 ? 0 : SIZE);
        }
    }

    private static void callsAndBooks() {
        edges("few in hour", EdgesTest::fullVillage, 0, 11, (x, t) -> x.few(t, 1));
        edges("few of", EdgesTest::fullVillage, 1, 8, (x, n) -> x.few(11, n));
        edges("stay", EdgesTest::fullVillage, 0, 5, EmptyHouse::stay);
        edges("against", EdgesTest::owedBack, 1, 7, (x, d) -> x.against(d, 0));
        edges("against with", EdgesTest::owedBack, 1, 7, (x, e) -> x.against(0, e));
        edges("family", EdgesTest::fullVillage, 1, 63, EmptyHouse::family);
        edges("family of one", () -> Due.village("ph"), 1, 1, EmptyHouse::family);
        edges("pay", EdgesTest::fullVillage, 0, 7, (x, d) -> x.pay(d, 1));
        edges("pay in hour", EdgesTest::fullVillage, 0, 11, (x, t) -> x.pay(7, t));
        edges("unpay", EdgesTest::allPaid, 0, 7, EmptyHouse::unpay);
        edges("keep in place", EdgesTest::fullVillage, 0, 2, EmptyHouse::keep);
        edges("on from place", EdgesTest::allPaid, 0, 2, EmptyHouse::on);
        edges("must of row", EdgesTest::fullVillage, 0, 5, (x, r) -> x.must(r, 0));
        edges("must of one", EdgesTest::fullVillage, 0, 5, (x, p) -> x.must(5, p));
        edges("liars of row", EdgesTest::fullVillage, 0, 5, EmptyHouse::liars);
        edges("count", EdgesTest::fullVillage, 0, 7, EmptyHouse::count);
        edges("findings", EdgesTest::fullVillage, 1, 5, EmptyHouse::findings);
    }

    private static EmptyHouse owedBack() {
        return Due.village("phph dBA:9:1dAB:1:1dAB:1:1dAB:1:1dAB:1:1dAB:1:1dAB:1:1dAB:1:1");
    }

    private static EmptyHouse allPaid() {
        EmptyHouse x = fullVillage();
        for (int d = 0; d < 8; d++) {
            Due.is("pay debt " + d, x.pay(d, d), 1 + d);
        }
        for (int k = 0; k < 3; k++) {
            Due.is("keep in " + k, x.keep(k), 8);
        }
        return x;
    }

    /** An object is used for 512 calls: the last of them is as good as the first. */
    private static void manyCalls() {
        EmptyHouse x = new EmptyHouse();
        x.row(0, 60);
        for (int call = 2; call <= 511; call++) {
            Due.told(x, "call " + call, x.lay(0, 59, call), 1, call == 2 ? 0 : call - 1);
        }
        EmptyHouse y = new EmptyHouse();
        for (int call = 1; call <= 511; call++) {
            y.tear(0);
        }
        Due.is("the 512th call tells of 511 findings", y.findings(NOTHING), 511);
    }
}
