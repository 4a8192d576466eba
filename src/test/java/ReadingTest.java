/** Promises 10 and 11: where a text has its fault, and villages by texts without one. */
public final class ReadingTest {
    private static final int NOTHING = 1;
    private static final int NONE = EmptyHouse.NONE;

    public static void main(String[] args) {
        goodTexts();
        faultsOfPeople();
        faultsOfHours();
        faultsOfDebts();
        textsUpToTheEnd();
        refused();
        village();
        villageAnew();
        villageAnewEachTime();
        villageLeavesRowsAndTexts();
        greatestVillage();
        Due.end();
    }

    private static void fault(String text, int due) {
        EmptyHouse x = new EmptyHouse();
        Due.write(x, 1, text);
        Due.is("fault of '" + text + "'", x.fault(1), due);
        int people = (int) text.chars().filter(c -> c == 'p').count();
        Due.is("village of '" + text + "'", x.village(1), due == NONE ? people : EmptyHouse.STATE);
        Due.is("people of '" + text + "'", x.count(0), due == NONE ? people : 0);
    }

    private static void goodTexts() {
        fault("", NONE);
        fault(" ", NONE);
        fault("   ph", NONE);
        fault("ph   ", NONE);
        fault("phpkpspyphph", NONE);
        fault("ph pmA plB", NONE);
        fault("pha0-0", NONE);
        fault("pha0-11a3-4a3-4", NONE);
        fault("pha00-011", 8);
        fault("pha00-01", NONE);
        fault("pha9-10a11-11", NONE);
        fault("ph ph dAB:99:9", NONE);
        fault("ph ph dAB:1:0dBA:01:9", NONE);
        fault("ph ph dAB:1:0 ph dAC:2:3 pkdDA:1:1", NONE);
        fault("phphdAB:1:1dAB:1:1dAB:1:1dAB:1:1dAB:1:1dAB:1:1dAB:1:1dAB:1:1 ", NONE);
        fault("plA", 2);
        fault("ph plA", NONE);
        fault("ph" + " ".repeat(118), NONE);
    }

    private static void faultsOfPeople() {
        fault("p", 1);
        fault("p h", 1);
        fault("px", 1);
        fault("pH", 1);
        fault("x", 0);
        fault("  h", 2);
        fault("ph h", 3);
        fault("pm", 2);
        fault("ph pl", 5);
        fault("ph pmB", 5);
        fault("ph pm A", 5);
        fault("ph pma", 5);
        fault("ph plB", 5);
        fault("ph pm@", 5);
        fault("ph plAA", 6);
        fault("phphphphphphph", 12);
        fault("phphphphphph p", 13);
        fault("phphphphphphpmF", 12);
        fault("phphphphphpmF", 12);
        fault("phphphphphpmE", NONE);
        fault("ph\u0000", 2);
        fault("ph\u00e9", 2);
        fault("ph\u00ff", 2);
        fault("ph\t", 2);
    }

    private static void faultsOfHours() {
        fault("pha", 3);
        fault("phax", 3);
        fault("pha-", 3);
        fault("pha1", 4);
        fault("pha1 -2", 4);
        fault("pha1:2", 4);
        fault("pha1-", 5);
        fault("pha1-x", 5);
        fault("pha1- 2", 5);
        fault("pha12-12", 5);
        fault("pha12", 5);
        fault("pha99", 5);
        fault("pha111-11", 5);
        fault("pha1-12", 7);
        fault("pha1-12 ", 7);
        fault("pha1-111", 7);
        fault("pha5-4", 6);
        fault("pha5-4 ph", 6);
        fault("pha5-04", 7);
        fault("pha11-10", 8);
        fault("pha1-2a", 7);
        fault("pha1-2b", 6);
        fault("ph a1-2", 3);
        fault("pha1-2 a3-4", 7);
        fault("ph pmAa3-2", 10);
        fault("ph pmaA", 5);
    }

    private static void faultsOfDebts() {
        fault("d", 1);
        fault("dAB:1:1", 1);
        fault("phdAB:1:1ph", 4);
        fault("phphd", 5);
        fault("phphdA", 6);
        fault("phphdAA:1:1", 6);
        fault("phphdAC:1:1", 6);
        fault("phphdCA:1:1", 5);
        fault("phphd AB:1:1", 5);
        fault("phphdA B:1:1", 6);
        fault("phphdAB", 7);
        fault("phphdAB1:1", 7);
        fault("phphdAB:", 8);
        fault("phphdAB::1", 8);
        fault("phphdAB:x", 8);
        fault("phphdAB: 1:1", 8);
        fault("phphdAB:0:1", 9);
        fault("phphdAB:00:1", 10);
        fault("phphdAB:0", 9);
        fault("phphdAB:1", 9);
        fault("phphdAB:100:1", 10);
        fault("phphdAB:1-1", 9);
        fault("phphdAB:1:", 10);
        fault("phphdAB:1:x", 10);
        fault("phphdAB:1: 1", 10);
        fault("phphdAB:1:11", 11);
        fault("phphdAB:1:1a1-2", 11);
        fault("phphdAB:1:1dAB:1:1dAB:1:1dAB:1:1dAB:1:1dAB:1:1dAB:1:1dAB:1:1d", 60);
        fault("phphdAB:1:1dAB:1:1dAB:1:1dAB:1:1dAB:1:1dAB:1:1dAB:1:1dAB:1:1 dxx", 61);
    }

    /** Each beginning of an item at the end of the greatest text: its fault is the text's size. */
    private static void textsUpToTheEnd() {
        String[] whole = {"", "phphpmA", "phphplAa10-11", "phphpka1-1", "phphdAB:10:9"};
        String[] cut = {"p", "phpm", "phpha", "phpha1", "phpha11", "phpha1-", "phpha11-", "phphd", "phphdA", "phphdAB",
            "phphdAB:", "phphdAB:1", "phphdAB:10", "phphdAB:10:"};
        for (String text : whole) {
            fault(" ".repeat(120 - text.length()) + text, NONE);
        }
        for (String text : cut) {
            fault(" ".repeat(120 - text.length()) + text, 120);
        }
    }

    private static void refused() {
        EmptyHouse x = new EmptyHouse();
        Due.is("fault of text 4", x.fault(4), -1);
        Due.is("fault of text -1", x.fault(-1), -1);
        Due.finding(x, "fault of a missing one", x.fault(3), NOTHING);
        Due.is("village of text 4", x.village(4), -1);
        Due.is("village of text -1", x.village(-1), -1);
        Due.finding(x, "village of a missing one", x.village(3), NOTHING);
        Due.is("findings", x.findings(NOTHING), 2);
    }

    private static void village() {
        EmptyHouse x = Due.village(" pha1-3a6-8 pk psa11-11 pmAa0-11 plB py dAB:10:2dFE:07:0 ");
        int[][] people = {{0, NONE, 0x1CE, 5}, {1, NONE, 0, 5}, {2, NONE, 0x800, 5}, {3, 0, 0xFFF, 5}, {4, 1, 0, 5},
            {5, NONE, 0, 5}};
        for (int p = 0; p < 6; p++) {
            for (int what = 0; what < 4; what++) {
                Due.told(x, "one(" + p + ", " + what + ")", x.one(p, what), 1, people[p][what]);
            }
        }
        int[][] debts = {{0, 1, 10, 2, NONE}, {5, 4, 7, 0, NONE}};
        for (int d = 0; d < 2; d++) {
            for (int what = 0; what < 5; what++) {
                Due.told(x, "debt(" + d + ", " + what + ")", x.debt(d, what), 1, debts[d][what]);
            }
        }
        Due.is("people", x.count(0), 6);
        Due.is("debts", x.count(1), 2);
    }

    private static void villageAnew() {
        EmptyHouse x = Due.village("pha0-5 pha3-9 dAB:50:1");
        x.cards(0, 9);
        x.law(2);
        Due.is("pay at 8 by law 2", x.pay(0, 8), EmptyHouse.STATE);
        x.law(0);
        Due.is("pay", x.pay(0, 3), 53);
        x.law(1);
        x.keep(0);
        x.keep(2);
        long before = x.digest();
        Due.write(x, 0, "ph ph dAA:1:1");
        x.text(1, 5);
        Due.is("fault", x.fault(0), 8);
        Due.is("a village by a text with a fault", x.village(0), EmptyHouse.STATE);
        Due.is("what it was stays", x.count(1), 1);
        Due.is("what was paid stays", x.count(2), 1);
        Due.is("kept ones stay", x.count(5), 2);
        Due.told(x, "cards stay", x.one(0, 3), 1, 9);
        Due.write(x, 0, "pha0-5 pha3-9 dAB:50:1");
        x.tear(0);
        EmptyHouse y = new EmptyHouse();
        Due.is("the digest tells of one text more", before == x.digest() ? 1 : 0, 0);
        Due.is("village anew", x.village(0), 2);
        Due.is("nothing paid", x.count(2), 0);
        Due.is("none kept", x.count(5), 0);
        Due.told(x, "cards are 5 again", x.one(0, 3), 1, 5);
        Due.is("the law is 0 again", x.law(3), 0);
        Due.is("the same village", x.village(0), 2);
        Due.is("the law is 0 once more", x.law(2), 0);
        Due.is("the same village again", x.village(0), 2);
        Due.is("the law is 0 ever again", x.law(0), 0);
        Due.is("a village of blanks", x.village(1), 0);
        Due.is("no people", x.count(0), 0);
        Due.is("no debts", x.count(1), 0);
        Due.is("no debt", x.debt(0, 0), -1);
        Due.is("a new one has none", y.count(0), 0);
    }

    /** "Anew; CARDS 5, LAW 0, nothing PAID, no BOOK kept", as often as it is asked for. */
    private static void villageAnewEachTime() {
        EmptyHouse x = Due.village("pha0-5 pmAa3-9 dAB:50:1");
        Due.write(x, 1, "pya0-11 pka3-9 ps dCB:7:9dAC:1:1");
        for (int turn = 0; turn < 6; turn++) {
            int t = turn % 2;
            Due.is("village by text " + t, x.village(t), t == 0 ? 2 : 3);
            Due.is("its debts", x.count(1), t == 0 ? 1 : 2);
            Due.is("its law", x.law(3), 0);
            Due.is("nothing is paid", x.count(2), 0);
            Due.is("no book is kept", x.count(5), 0);
            for (int p = 0; p < 2; p++) {
                Due.is("its cards", x.cards(p, 70 + turn), 5);
                Due.told(x, "its habits", x.one(p, 2), 1, p == 1 ? 0x3F8 : t == 0 ? 0x03F : 0xFFF);
                x.habit(p, 3, 0);
                x.habit(p, 1, 1);
            }
            Due.told(x, "with whom it is shared", x.one(1, 1), 1, t == 0 ? 0 : NONE);
            Due.is("pay the last debt", x.pay(t, 4 + 4 * t), t == 0 ? EmptyHouse.STATE : 9);
            x.law(0);
            Due.is("pay the first debt", x.pay(0, 4), t == 0 ? 54 : EmptyHouse.STATE);
            x.keep(turn % 3);
        }
    }

    /** A village anew is one of people, debts, law and books; rows, texts and what was told stay. */
    private static void villageLeavesRowsAndTexts() {
        EmptyHouse x = Due.village("pha0-5 pha3-9 dAB:50:0");
        Due.round(x, 2, 7, 8, 9);
        x.ways();
        x.mean(2);
        x.at(5, 0);
        for (int k = 0; k < 3; k++) {
            x.keep(k);
        }
        x.habit(0, 11, 1);
        x.cards(1, 0);
        Due.is("village anew", x.village(0), 2);
        Due.is("asked stays", x.asked(), 8);
        Due.is("upper stays", x.upper(), 3);
        Due.is("the finding stays", x.finding(), NOTHING);
        Due.told(x, "the row stays", x.at(2, 2), 1, 9);
        Due.is("the text stays", x.put(0, 0, 'p'), 1000 + 'p');
        Due.told(x, "habits are as in the text", x.one(0, 2), 1, 0x03F);
        Due.told(x, "cards are 5", x.one(1, 3), 1, 5);
        for (int k = 0; k < 3; k++) {
            Due.finding(x, "no book is kept in " + k, x.on(k), NOTHING);
        }
        x.put(0, 0, 'x');
        Due.told(x, "the village stays when its text is changed", x.debt(0, 2), 1, 50);
        Due.is("nor is it changed by the fault", x.fault(0), 0);
        Due.told(x, "the village stays", x.debt(0, 2), 1, 50);
        Due.is("a text of none", x.text(1, 0), 0);
        Due.is("a village of none", x.village(1), 0);
        Due.is("nobody", x.one(0, 0), EmptyHouse.BAD);
    }

    /** Six people and eight debts fill a text of 120 to its last byte. */
    private static void greatestVillage() {
        String text = "pha10-11 pha10-11 pha10-11 pha10-11 pha0-1pha0-1 "
            + "dAB:99:9 dBC:99:9 dCD:99:9 dDE:99:9 dEF:99:9 dFA:99:9 dAC:99:9 dAD:99:9";
        Due.is("its size", text.length(), 120);
        fault(text, NONE);
        EmptyHouse x = Due.village(text);
        Due.is("people", x.count(0), 6);
        Due.is("debts", x.count(1), 8);
        Due.told(x, "the last debt", x.debt(7, 3), 1, 9);
        Due.told(x, "all at their dearest", x.paid(), 0, 8 * (99 + 108));
    }
}
