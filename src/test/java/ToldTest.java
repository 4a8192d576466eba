/** Promises 39 to 45: what is told of answers, findings and all that there is. */
public final class ToldTest {
    private static final int NONE = EmptyHouse.NONE;

    public static void main(String[] args) {
        asked();
        askedByEach();
        upperAndLower();
        count();
        findings();
        refusedChangesNothing();
        digestOfNothing();
        digest();
        Due.end();
    }

    private static void asked() {
        EmptyHouse x = Due.village("pha0-5 pka3-9 dAB:50:1dBA:9:8");
        Due.is("nothing told", x.asked(), 0);
        x.one(1, 2);
        Due.is("one", x.asked(), 0x3F8);
        // None of these tells anything by asked().
        x.law(0);
        x.cards(0, 5);
        x.habit(0, 0, 1);
        x.mark(1, 1);
        x.empty(0);
        x.when(0);
        x.ways();
        x.pay(0, 3);
        x.unpay(0);
        x.keep(0);
        x.on(0);
        x.row(0, 2);
        x.copy(0, 0, 0, 1, 1);
        x.must(0, 0);
        x.tear(0);
        x.text(1, 3);
        x.put(1, 0, 1);
        x.fault(1);
        x.count(0);
        x.findings(1);
        x.digest();
        x.village(0);
        Due.is("one still", x.asked(), 0x3F8);
        x.few(11, 8);
        x.one(9, 9);
        x.family(0);
        x.judge(0);
        x.best(-1);
        x.against(0, 0);
        x.habit(1, 0, 0);
        Due.is("neither refused nor NONE", x.asked(), 0x3F8);
        x.debt(0, 2);
        Due.is("debt", x.asked(), 50);
    }

    /** Each of the eighteen calls that tell something by asked(), none told twice in a row. */
    private static void askedByEach() {
        EmptyHouse x = Due.village("pha0-5 pka3-9 dAB:50:1dBA:9:8");
        Due.round(x, 0, 3, 4);
        Due.told(x, "lay", x.lay(0, 1, 5), 1, 4);
        Due.told(x, "at", x.at(0, 1), 1, 5);
        Due.told(x, "worth", x.worth(0), 53 + 49, 6);
        Due.told(x, "mean", x.mean(0), 1, 4);
        Due.told(x, "one", x.one(0, 2), 1, 0x03F);
        Due.told(x, "debt", x.debt(0, 2), 1, 50);
        Due.told(x, "hour", x.hour(3), 3, 2);
        Due.told(x, "best", x.best(1), 2, 53 + 33);
        Due.told(x, "judge", x.judge(1), 0, 0);
        Due.told(x, "soonest", x.soonest(), 4, 86);
        Due.told(x, "rings", x.rings(), 3, 2);
        Due.told(x, "few", x.few(10, 1), 2, 3);
        Due.told(x, "call", x.call(), 100, 27 - 5);
        Due.told(x, "stay", x.stay(0), 3, 8);
        Due.told(x, "against", x.against(0, 1), 41, 0);
        Due.told(x, "family", x.family(3), 0x038, 3);
        Due.told(x, "paid", x.paid(), 0, 62 + 105);
        x.lay(0, 0, 11);
        Due.told(x, "liars", x.liars(0), 3, 2);
        x.lay(0, 0, 6);
        Due.told(x, "judge of what can't be", x.judge(0), 1, 0);
        Due.told(x, "one whose house is not shared", x.one(0, 1), 1, NONE);
        Due.told(x, "debt that is not paid", x.debt(1, 4), 1, NONE);
    }

    private static void upperAndLower() {
        EmptyHouse x = Due.village("pha0-5 pha0-5 dAB:50:0");
        Due.is("upper before", x.upper(), 0);
        Due.is("lower before", x.lower(), 1);
        x.best(0);
        Due.is("upper is told by ways alone", x.upper(), 0);
        Due.is("ways", x.ways(), 1);
        Due.is("upper", x.upper(), 6);
        Due.is("lower", x.lower(), 1);
        x.habit(0, 0, 0);
        Due.is("upper stays", x.upper(), 6);
        x.ways();
        Due.is("upper anew", x.upper(), 5);
    }

    private static void count() {
        EmptyHouse x = Due.village("pha0-5 pka0-5 pmAa0-5 plB py ps dAB:1:1dAC:1:1dBA:1:1");
        x.pay(0, 1);
        x.pay(1, 2);
        x.keep(2);
        x.row(0, 0);
        x.row(1, 5);
        x.row(5, 60);
        x.tear(1);
        x.text(3, 0);
        int[] due = {6, 3, 2, 2, 2, 1, 2, 2};
        for (int what = 0; what < 8; what++) {
            Due.is("count " + what, x.count(what), due[what]);
        }
        Due.is("count 8", x.count(8), -1);
        Due.is("count -1", x.count(-1), -1);
        x.keep(2);
        Due.is("kept in one place", x.count(5), 1);
    }

    private static void findings() {
        EmptyHouse x = Due.village("ph");
        Due.is("none yet", x.finding(), 0);
        Due.finding(x, "nothing", x.at(0, 0), 1);
        Due.finding(x, "size", x.row(0, -3), 5);
        x.row(0, 0);
        Due.finding(x, "beyond", x.at(0, 0), 2);
        Due.finding(x, "nought", x.mean(0), 4);
        Due.finding(x, "unlike", x.mark(0, 2), 3);
        Due.finding(x, "nothing again", x.tear(4), 1);
        x.at(6, 0);
        x.village(0);
        Due.is("the latest stays", x.finding(), 1);
        int[] due = {-1, 2, 1, 1, 1, 1, -1};
        for (int f = 0; f < 7; f++) {
            Due.is("findings " + f, x.findings(f), due[f]);
        }
        Due.is("findings -1", x.findings(-1), -1);
        Due.is("findings of the greatest int", x.findings(Integer.MAX_VALUE), -1);
    }

    private static void refusedChangesNothing() {
        EmptyHouse x = Due.village("pha0-5 pka3-9 dAB:50:1dBA:9:8");
        x.pay(0, 4);
        x.row(0, 3);
        x.lay(0, 1, 3);
        x.lay(0, 1, 4);
        long before = x.digest();
        int asked = x.asked();
        int[] answers = {x.row(0, 61), x.row(0, -1), x.lay(0, 3, 1), x.lay(1, 0, 1), x.tear(1), x.copy(0, 0, 0, 1, 3),
            x.mean(1), x.text(0, 121), x.text(0, -1), x.put(0, 99, 1), x.put(1, 0, 1), x.village(1), x.one(2, 0),
            x.mark(0, 1), x.debt(2, 0), x.law(4), x.cards(0, 100), x.habit(0, 12, 0), x.hour(12), x.judge(0),
            x.worth(0), x.best(6), x.few(0, 9), x.stay(2), x.against(0, 1), x.family(4), x.pay(0, 5), x.pay(1, 0),
            x.unpay(1), x.keep(3), x.on(0), x.must(0, 0), x.liars(0), x.count(8)};
        for (int i = 0; i < answers.length; i++) {
            Due.is("answer " + i + " refuses", answers[i] < 0 && answers[i] != NONE ? 1 : 0, 1);
        }
        Due.is("digest stays", x.digest(), before);
        Due.is("asked stays", x.asked(), asked);
    }

    private static long digest(long... values) {
        long h = 17;
        for (long v : values) {
            h = 31 * h + v;
        }
        return h;
    }

    private static void digestOfNothing() {
        Due.is("digest of nothing", new EmptyHouse().digest(),
            digest(0, 0, 0, 0, 0, 0, 0, 0, 0, -1, -1, -1, -1, -1, -1, -1, -1, -1, -1, -1, -1, -1));
    }

    private static void digest() {
        EmptyHouse x = Due.village("pka0-1 pmAa0-1 dAB:7:2dBA:9:3");
        x.pay(1, 1);
        x.keep(1);
        x.unpay(1);
        x.pay(0, 0);
        x.law(2);
        x.cards(1, 8);
        x.row(2, 2);
        x.lay(2, 1, Integer.MIN_VALUE);
        x.row(4, 0);
        x.text(0, 1);
        x.put(0, 0, 255);
        x.text(3, 2);
        Due.is("digest", x.digest(), digest(
            2, 2, 1, 1, 1, 1, 2, 2, 2,
            1, NONE, 3, 5, 3, 0, 3, 8,
            0, 1, 7, 2, 0, 1, 0, 9, 3, NONE,
            -1, NONE, 1, -1,
            -1, -1, 2, 0, Integer.MIN_VALUE, -1, 0, -1,
            1, -1, -1, -1, 2, 32, 32));
        x.tear(2);
        x.tear(4);
        Due.is("digest behind tearing", x.digest(), digest(
            2, 2, 1, 1, 1, 1, 0, 2, 2,
            1, NONE, 3, 5, 3, 0, 3, 8,
            0, 1, 7, 2, 0, 1, 0, 9, 3, NONE,
            -1, NONE, 1, -1,
            -1, -1, -1, -1, -1, -1,
            1, -1, -1, -1, 2, 32, 32));
    }
}
