import java.util.function.ToLongFunction;

/**
 * Terms: which answer a refused call gives, the first that fits of several, and that it changes nothing but finding()
 * and findings(). Each row below is one call on a village in which every reason to refuse can be had.
 */
public final class RefusalTest {
    private static final int BAD = EmptyHouse.BAD, STATE = EmptyHouse.STATE, NONE = EmptyHouse.NONE;
    private static final int NOTHING = 1, BEYOND = 2, UNLIKE = 3, NOUGHT = 4, SIZE = 5;
    // Rows and texts of mixedVillage(): what is the matter with each.
    private static final int GOOD = 0, SHORT = 1, NO_HOUR = 2, MISSING = 3, EMPTY = 4, AMISS = 5;
    private static final int GOOD_TEXT = 0, FAULTY_TEXT = 1, MISSING_TEXT = 2, EMPTY_TEXT = 3;

    public static void main(String[] args) {
        constants();
        rows();
        copies();
        texts();
        village();
        hours();
        rounds();
        calls();
        books();
        told();
        answersOfNone();
        notRefused();
        Due.end();
    }

    private static void constants() {
        int[] got = {EmptyHouse.BAD, EmptyHouse.FULL, EmptyHouse.FINDING, EmptyHouse.STATE, EmptyHouse.SPENT,
            EmptyHouse.NONE};
        int[] due = {-1, -2, -3, -4, -6, -9};
        for (int i = 0; i < due.length; i++) {
            Due.is("constant " + i, got[i], due[i]);
        }
    }

    private static EmptyHouse mixedVillage() {
        EmptyHouse x = Due.village("pha0-5 pka0-5 ps pmAa0-5 plB pya3-3 dAB:50:1dBA:9:8dAD:7:3dDB:7:3dFA:1:1");
        Due.round(x, GOOD, 0, 1, 2, 3, NONE);
        Due.round(x, SHORT, 0, 1, 12);
        Due.round(x, NO_HOUR, 11, 1, 1, 1, 12);
        Due.round(x, EMPTY);
        Due.round(x, AMISS, 0, NONE, 0, NONE, NONE);
        Due.write(x, FAULTY_TEXT, "ph ph dAA:1:1");
        x.text(EMPTY_TEXT, 0);
        Due.is("debt 0 is paid in hour 3", x.pay(0, 3), 53);
        x.keep(1);
        Due.is("debt 1 is paid in hour 4", x.pay(1, 4), 41);
        // What is told last is like nothing that a refused call could tell.
        x.ways();
        x.habit(5, 11, 1);
        x.lay(AMISS, 4, 77);
        x.lay(AMISS, 4, NONE);
        Due.is("asked", x.asked(), 77);
        return x;
    }

    private static long[] all(EmptyHouse x) {
        long[] all = {x.digest(), x.asked(), x.upper(), x.lower(), x.finding(), 0, 0, 0, 0, 0};
        for (int f = 1; f <= 5; f++) {
            all[4 + f] = x.findings(f);
        }
        return all;
    }

    /** The call answers so, and what it leaves is as it was but for the finding (0: none), if it is one. */
    private static void leaves(String call, EmptyHouse x, ToLongFunction<EmptyHouse> made, long answer, int finding) {
        long[] due = all(x);
        Due.is(call, made.applyAsLong(x), answer);
        if (finding != 0) {
            due[4] = finding;
            due[4 + finding]++;
        }
        long[] got = all(x);
        String[] names = {"digest", "asked", "upper", "lower", "finding", "NOTHING", "BEYOND", "UNLIKE", "NOUGHT", "SIZE"};
        for (int i = 0; i < due.length; i++) {
            Due.is(names[i] + " behind " + call, got[i], due[i]);
        }
    }

    /** Once as the first refused call of an object, once behind findings of all kinds. */
    private static void refused(String call, ToLongFunction<EmptyHouse> made, int answer, int finding) {
        leaves(call, mixedVillage(), made, answer, finding);
        EmptyHouse x = mixedVillage();
        x.row(GOOD, -1);
        x.mean(EMPTY);
        x.mark(0, 1);
        x.at(EMPTY, 0);
        x.at(MISSING, 0);
        if (finding == NOTHING) {
            x.row(GOOD, -1);
        }
        leaves(call + " behind others", x, made, answer, finding);
    }

    private static void bad(String call, ToLongFunction<EmptyHouse> made) {
        refused(call + " is BAD", made, BAD, 0);
    }

    private static void state(String call, ToLongFunction<EmptyHouse> made) {
        refused(call + " is STATE", made, STATE, 0);
    }

    private static void finding(int kind, String call, ToLongFunction<EmptyHouse> made) {
        refused(call + " is a finding", made, EmptyHouse.FINDING, kind);
    }

    private static void rows() {
        bad("row -1", x -> x.row(-1, 1));
        bad("row 6", x -> x.row(6, 1));
        bad("row of 61", x -> x.row(GOOD, 61));
        bad("row 6 of -1: BAD ahead of SIZE", x -> x.row(6, -1));
        finding(SIZE, "row of -1", x -> x.row(GOOD, -1));
        finding(SIZE, "a missing row of -1", x -> x.row(MISSING, -1));
        bad("lay in row -1", x -> x.lay(-1, 0, 1));
        bad("lay in row 6, place -1: BAD ahead of BEYOND", x -> x.lay(6, -1, 1));
        finding(NOTHING, "lay in a missing row", x -> x.lay(MISSING, 0, 1));
        finding(NOTHING, "lay in a missing row, place -1: NOTHING ahead of BEYOND", x -> x.lay(MISSING, -1, 1));
        finding(BEYOND, "lay in an empty row", x -> x.lay(EMPTY, 0, 1));
        finding(BEYOND, "lay at a row's size", x -> x.lay(GOOD, 5, 1));
        finding(BEYOND, "lay at place -1", x -> x.lay(GOOD, -1, 1));
        bad("at in row -1", x -> x.at(-1, 0));
        bad("at in row 6, place -1: BAD ahead of BEYOND", x -> x.at(6, -1));
        finding(NOTHING, "at in a missing row", x -> x.at(MISSING, 0));
        finding(NOTHING, "at in a missing row, place 60: NOTHING ahead of BEYOND", x -> x.at(MISSING, 60));
        finding(BEYOND, "at in an empty row", x -> x.at(EMPTY, 0));
        finding(BEYOND, "at a row's size", x -> x.at(GOOD, 5));
        finding(BEYOND, "at place -1", x -> x.at(GOOD, -1));
        bad("tear row -1", x -> x.tear(-1));
        bad("tear row 6", x -> x.tear(6));
        finding(NOTHING, "tear a missing row", x -> x.tear(MISSING));
        bad("mean of row -1", x -> x.mean(-1));
        bad("mean of row 6", x -> x.mean(6));
        finding(NOTHING, "mean of a missing row", x -> x.mean(MISSING));
        finding(NOUGHT, "mean of an empty row", x -> x.mean(EMPTY));
    }

    private static void copies() {
        bad("copy from row -1", x -> x.copy(-1, 0, GOOD, 0, 1));
        bad("copy to row 6", x -> x.copy(GOOD, 0, 6, 0, 1));
        bad("copy -1 from row 6: BAD ahead of SIZE", x -> x.copy(6, 0, GOOD, 0, -1));
        bad("copy -1 to row -1: BAD ahead of SIZE", x -> x.copy(GOOD, 0, -1, 0, -1));
        bad("copy from a missing row to row 6: BAD ahead of NOTHING", x -> x.copy(MISSING, 0, 6, 0, 1));
        bad("copy from row 6 to a missing row: BAD ahead of NOTHING", x -> x.copy(6, 0, MISSING, 0, 1));
        bad("copy to row 6 from beyond: BAD ahead of BEYOND", x -> x.copy(GOOD, 9, 6, 0, 1));
        finding(SIZE, "copy -1", x -> x.copy(GOOD, 0, SHORT, 0, -1));
        finding(SIZE, "copy -1 from a missing row: SIZE ahead of NOTHING", x -> x.copy(MISSING, 0, GOOD, 0, -1));
        finding(SIZE, "copy -1 to a missing row: SIZE ahead of NOTHING", x -> x.copy(GOOD, 0, MISSING, 0, -1));
        finding(SIZE, "copy -1 from beyond: SIZE ahead of BEYOND", x -> x.copy(GOOD, 9, SHORT, -9, -1));
        finding(NOTHING, "copy from a missing row", x -> x.copy(MISSING, 0, GOOD, 0, 0));
        finding(NOTHING, "copy to a missing row", x -> x.copy(GOOD, 0, MISSING, 0, 0));
        finding(NOTHING, "copy a missing row onto itself", x -> x.copy(MISSING, 0, MISSING, 0, 0));
        finding(NOTHING, "copy from beyond to a missing row: NOTHING ahead of BEYOND",
            x -> x.copy(GOOD, 9, MISSING, 0, 1));
        finding(NOTHING, "copy from a missing row to beyond: NOTHING ahead of BEYOND",
            x -> x.copy(MISSING, 0, GOOD, 9, 1));
        finding(BEYOND, "copy one too many from a row", x -> x.copy(SHORT, 2, GOOD, 0, 2));
        finding(BEYOND, "copy one too many to a row", x -> x.copy(GOOD, 0, SHORT, 2, 2));
        finding(BEYOND, "copy one from an empty row", x -> x.copy(EMPTY, 0, GOOD, 0, 1));
        finding(BEYOND, "copy one to an empty row", x -> x.copy(GOOD, 0, EMPTY, 0, 1));
        finding(BEYOND, "copy from place -1", x -> x.copy(GOOD, -1, SHORT, 0, 1));
        finding(BEYOND, "copy to place -1", x -> x.copy(GOOD, 0, SHORT, -1, 1));
        finding(BEYOND, "copy one too many onto itself", x -> x.copy(GOOD, 0, GOOD, 1, 5));
    }

    private static void texts() {
        bad("text -1", x -> x.text(-1, 1));
        bad("text 4", x -> x.text(4, 1));
        bad("text of 121", x -> x.text(GOOD_TEXT, 121));
        bad("text 4 of -1: BAD ahead of SIZE", x -> x.text(4, -1));
        finding(SIZE, "text of -1", x -> x.text(GOOD_TEXT, -1));
        finding(SIZE, "a missing text of -1", x -> x.text(MISSING_TEXT, -1));
        bad("put in text -1", x -> x.put(-1, 0, 65));
        bad("put in text 4, place -1: BAD ahead of BEYOND", x -> x.put(4, -1, 65));
        finding(NOTHING, "put in a missing text", x -> x.put(MISSING_TEXT, 0, 65));
        finding(NOTHING, "put in a missing text, place -1: NOTHING ahead of BEYOND", x -> x.put(MISSING_TEXT, -1, 65));
        finding(BEYOND, "put in an empty text", x -> x.put(EMPTY_TEXT, 0, 65));
        finding(BEYOND, "put at a text's size", x -> x.put(FAULTY_TEXT, 13, 65));
        finding(BEYOND, "put at place -1", x -> x.put(GOOD_TEXT, -1, 65));
        bad("fault of text -1", x -> x.fault(-1));
        bad("fault of text 4", x -> x.fault(4));
        finding(NOTHING, "fault of a missing text", x -> x.fault(MISSING_TEXT));
        bad("village by text -1", x -> x.village(-1));
        bad("village by text 4", x -> x.village(4));
        finding(NOTHING, "village by a missing text", x -> x.village(MISSING_TEXT));
        state("village by a text with a fault", x -> x.village(FAULTY_TEXT));
    }

    private static void village() {
        bad("one -1", x -> x.one(-1, 0));
        bad("one 6", x -> x.one(6, 0));
        bad("one, what -1", x -> x.one(0, -1));
        bad("one, what 4", x -> x.one(0, 4));
        bad("mark -1", x -> x.mark(-1, 1));
        bad("mark 6: BAD ahead of UNLIKE", x -> x.mark(6, 1));
        bad("mark by kind 0", x -> x.mark(0, 0));
        bad("mark of another house by kind 0", x -> x.mark(1, 0));
        bad("mark by kind 6: BAD ahead of UNLIKE", x -> x.mark(0, 6));
        bad("mark by kind -1: BAD ahead of UNLIKE", x -> x.mark(0, -1));
        finding(UNLIKE, "mark of a house as a kennel", x -> x.mark(0, 1));
        finding(UNLIKE, "mark of a kennel as a yard", x -> x.mark(1, 5));
        finding(UNLIKE, "mark of a shared one as a lodge", x -> x.mark(3, 4));
        bad("debt -1", x -> x.debt(-1, 0));
        bad("debt 5", x -> x.debt(5, 0));
        bad("debt, what -1", x -> x.debt(0, -1));
        bad("debt, what 5", x -> x.debt(0, 5));
        bad("law -1", x -> x.law(-1));
        bad("law 4", x -> x.law(4));
        bad("cards of -1", x -> x.cards(-1, 1));
        bad("cards of 6", x -> x.cards(6, 1));
        bad("cards -1", x -> x.cards(0, -1));
        bad("cards 100", x -> x.cards(0, 100));
        bad("habit of -1", x -> x.habit(-1, 0, 0));
        bad("habit of 6", x -> x.habit(6, 0, 0));
        bad("habit in hour -1", x -> x.habit(0, -1, 0));
        bad("habit in hour 12", x -> x.habit(0, 12, 1));
        bad("habit -1", x -> x.habit(0, 0, -1));
        bad("habit 2", x -> x.habit(0, 0, 2));
    }

    private static void hours() {
        bad("empty -1", x -> x.empty(-1));
        bad("empty 6", x -> x.empty(6));
        bad("when -1", x -> x.when(-1));
        bad("when 5", x -> x.when(5));
        bad("hour -1", x -> x.hour(-1));
        bad("hour 12", x -> x.hour(12));
        bad("best to row -1", x -> x.best(-1));
        bad("best to row 6", x -> x.best(6));
    }

    private static void rounds() {
        round("judge", EmptyHouse::judge);
        round("worth", EmptyHouse::worth);
        round("liars", EmptyHouse::liars);
        round("must", (x, r) -> x.must(r, 0));
        finding(UNLIKE, "worth of a round that can't be", x -> x.worth(AMISS));
        bad("must of -1", x -> x.must(GOOD, -1));
        bad("must of 6", x -> x.must(GOOD, 6));
        bad("must of 6 by a missing row: BAD ahead of NOTHING", x -> x.must(MISSING, 6));
        bad("must of -1 by a short row: BAD ahead of SIZE", x -> x.must(SHORT, -1));
        bad("must of -1 by a row with no hour: BAD ahead of UNLIKE", x -> x.must(NO_HOUR, -1));
    }

    private interface ByRow {
        int asks(EmptyHouse x, int r);
    }

    /** A short row that holds a number which is no hour, too, and one in which debt 0 is amiss ahead of such one. */
    private static void round(String name, ByRow call) {
        bad(name + " of row -1", x -> call.asks(x, -1));
        bad(name + " of row 6", x -> call.asks(x, 6));
        finding(NOTHING, name + " of a missing row", x -> call.asks(x, MISSING));
        finding(SIZE, name + " of an empty row", x -> call.asks(x, EMPTY));
        finding(SIZE, name + " of a short row: SIZE ahead of UNLIKE", x -> call.asks(x, SHORT));
        finding(UNLIKE, name + " of a row with no hour", x -> call.asks(x, NO_HOUR));
    }

    private static void calls() {
        bad("few in hour -1", x -> x.few(-1, 1));
        bad("few in hour 12", x -> x.few(12, 1));
        bad("few of 0", x -> x.few(0, 0));
        bad("few of 9", x -> x.few(0, 9));
        bad("stay -1", x -> x.stay(-1));
        bad("stay 6", x -> x.stay(6));
        bad("against -1", x -> x.against(-1, 0));
        bad("against 5", x -> x.against(2, 5));
        bad("against alike ones", x -> x.against(2, 2));
        bad("against alike ones that are paid: BAD ahead of STATE", x -> x.against(0, 0));
        bad("against 5 of one that is paid: BAD ahead of STATE", x -> x.against(0, 5));
        state("against of such two, both paid", x -> x.against(0, 1));
        state("against of no such two", x -> x.against(2, 3));
        bad("family of none", x -> x.family(0));
        bad("family of one who is none", x -> x.family(64));
        bad("family of one who is none and all others", x -> x.family(127));
        bad("family below 0", x -> x.family(-1));
    }

    private static void books() {
        bad("pay -1", x -> x.pay(-1, 0));
        bad("pay 5", x -> x.pay(5, 0));
        bad("pay in hour -1", x -> x.pay(2, -1));
        bad("pay in hour 12", x -> x.pay(2, 12));
        bad("pay what is paid in hour 12: BAD ahead of STATE", x -> x.pay(0, 12));
        state("pay what is paid", x -> x.pay(0, 0));
        state("pay what is paid in its own hour", x -> x.pay(0, 3));
        state("pay while all are in", x -> x.pay(2, 6));
        state("pay by one who lays another sum in that hour", x -> x.pay(2, 3));
        state("pay into a house into which another sum is laid in that hour", x -> x.pay(3, 3));
        bad("unpay -1", x -> x.unpay(-1));
        bad("unpay 5", x -> x.unpay(5));
        state("unpay what is not paid", x -> x.unpay(2));
        bad("keep in place -1", x -> x.keep(-1));
        bad("keep in place 3", x -> x.keep(3));
        bad("on from place -1", x -> x.on(-1));
        bad("on from place 3", x -> x.on(3));
        finding(NOTHING, "on from place 0, where no book is kept", x -> x.on(0));
        finding(NOTHING, "on from place 2, where no book is kept", x -> x.on(2));
    }

    private static void told() {
        bad("count -1", x -> x.count(-1));
        bad("count 8", x -> x.count(8));
        bad("findings -1", x -> x.findings(-1));
        bad("findings 0", x -> x.findings(0));
        bad("findings 6", x -> x.findings(6));
    }

    /** NONE is no refusal, but it leaves asked() and all else, too. */
    private static void answersOfNone() {
        leaves("fault of a text without one", mixedVillage(), x -> x.fault(GOOD_TEXT), NONE, 0);
        leaves("few of eight", mixedVillage(), x -> x.few(0, 8), NONE, 0);
        leaves("stay of one who is never out", mixedVillage(), x -> x.stay(2), NONE, 0);
        EmptyHouse out = Due.village("pha0-11");
        out.one(0, 3);
        leaves("call if all are out always", out, EmptyHouse::call, NONE, 0);
    }

    /** What is not refused leaves the findings as they are. */
    private static void notRefused() {
        EmptyHouse x = mixedVillage();
        x.at(MISSING, 0);
        int[] answers = {x.worth(GOOD), x.copy(GOOD, 0, GOOD, 0, 5), x.row(GOOD, 5), x.best(GOOD), x.on(1),
            x.village(GOOD_TEXT)};
        for (int i = 0; i < answers.length; i++) {
            Due.is("call " + i + " is not refused", answers[i] >= 0 ? 1 : 0, 1);
        }
        Due.is("the finding behind what is not refused", x.finding(), NOTHING);
        int[] due = {1, 0, 0, 0, 0};
        for (int f = 1; f <= 5; f++) {
            Due.is("findings " + f + " behind what is not refused", x.findings(f), due[f - 1]);
        }
    }
}
