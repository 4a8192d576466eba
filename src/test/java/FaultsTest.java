import java.nio.charset.StandardCharsets;
import java.util.Random;

/** Terms, promises 10 and 11: each sentence of what a village is and where its fault lies. */
public final class FaultsTest {
    private static final int NONE = EmptyHouse.NONE;
    private static final Random RANDOM = new Random(20261119);
    private static final String SIGNS = "pppdddaaahksmlyABCDEFG@--::0011234567899   xPDH`\t\u0000\u0090\u00f0\u00ff";

    public static void main(String[] args) {
        blanksBetween();
        blanksWithin();
        peopleAndDebts();
        lettersToldAhead();
        hours();
        values();
        interests();
        everySignAtEveryPlace();
        endsTooEarly();
        randomTexts();
        Due.end();
    }

    private static void write(EmptyHouse x, byte[] text) {
        x.text(2, text.length);
        for (int i = 0; i < text.length; i++) {
            x.put(2, i, text[i]);
        }
    }

    private static byte[] bytes(String text) {
        return text.getBytes(StandardCharsets.ISO_8859_1);
    }

    private static void fault(String text, int due) {
        EmptyHouse x = new EmptyHouse();
        write(x, bytes(text));
        Due.is("fault of '" + text + "'", x.fault(2), due);
        Due.is("fault of '" + text + "' by the plain reader", new PlainReader().fault(bytes(text)), due);
    }

    /** "Blanks ahead, between, behind as many as wanted." */
    private static void blanksBetween() {
        String[] items = {"pha1-2", "pmAa0-0a11-11", "dAB:5:1", "dBA:10:0"};
        for (int blanks = 0; blanks <= 12; blanks++) {
            String gap = " ".repeat(blanks);
            fault(gap + String.join(gap, items) + gap, NONE);
        }
        for (int size = 0; size <= 120; size++) {
            fault(" ".repeat(size), NONE);
        }
    }

    /** "None within items": a blank at each place within each item. */
    private static void blanksWithin() {
        within("phph ", "pmA", 1, 2);
        within("phph ", "plB", 1, 2);
        within("phph ", "ph", 1);
        within("phph ", "pya10-11", 1, 3, 4, 5, 6);
        within("phph ", "dAB:10:9", 1, 2, 3, 4, 5, 6, 7);
        // An item may end ahead of these places: what then comes behind the blank begins none.
        fault("ph a1-2", 3);
        fault("pha1-1 1", 7);
        fault("pha1-2 a3-4", 7);
        fault("phph dAB:1:1 1", 13);
    }

    private static void within(String ahead, String item, int... places) {
        fault(ahead + item, NONE);
        for (int place : places) {
            fault(ahead + item.substring(0, place) + " " + item.substring(place), ahead.length() + place);
        }
    }

    /** "6 at most", "8 at most", "a seventh p, a ninth d: its letter". */
    private static void peopleAndDebts() {
        String six = "phpkpspmAplApy";
        String eight = "dAB:1:1".repeat(8);
        fault(six, NONE);
        fault(six + "ph", 14);
        fault(six + " p", 15);
        fault(six + "px", 14);
        fault(six + eight, NONE);
        fault(six + eight + "p", 70);
        fault(six + eight + "d", 70);
        fault(six + eight + " dAB:1:1", 71);
        fault(six + "dAB:1:1".repeat(7) + "  d", 66);
        fault("d" + six, 1);
    }

    /** "A, B, .. in the TEXT"; "x a letter of one told ahead"; "a DEBT of x to y (unlike ones told ahead)". */
    private static void lettersToldAhead() {
        for (int people = 0; people <= 5; people++) {
            String ahead = "ph".repeat(people);
            for (char x = 'A' - 1; x <= 'G'; x++) {
                boolean told = x >= 'A' && x < 'A' + people;
                fault(ahead + "pm" + x, told ? NONE : 2 * people + 2);
                fault(ahead + "pl" + x, told ? NONE : 2 * people + 2);
                fault(ahead + "d" + x + (x == 'A' ? 'B' : 'A') + ":1:1",
                    !told ? 2 * people + 1 : people > 1 ? NONE : 2 * people + 2);
                fault(ahead + "dA" + x + ":1:1", people == 0 ? 1 : told && x != 'A' ? NONE : 2 * people + 2);
            }
        }
        fault("phdAB:1:1ph", 4);
        fault("phph dBB:1:1", 7);
        fault("ph pmB ph", 5);
        fault("ph pma", 5);
        fault("phph dab:1:1", 6);
    }

    /** "An HOUR (one or two figures), -, an HOUR not ahead of it"; "an HOUR out of these: the place behind". */
    private static void hours() {
        for (int from = 0; from <= 99; from++) {
            fault("pha" + from + "-11", from > 11 ? 5 : NONE);
            for (int to = 0; to <= 99; to++) {
                String text = "pha" + from + "-" + to;
                int due = from > 11 ? 5 : to > 11 || to < from ? text.length() : NONE;
                fault(text, due);
                fault(text + " ph", due);
            }
        }
        for (int t = 0; t <= 9; t++) {
            fault("pha0" + t + "-0" + t, NONE);
            fault("pha" + t + "-" + t, NONE);
            fault("pha9-0" + t, t < 9 ? 7 : NONE);
            fault("pha10-" + t + "ph", 7);
        }
        fault("pha000-1", 5);
        fault("pha0-000", 7);
        fault("pha011-11", 5);
        fault("pha0-011", 7);
        fault("pha-1-2", 3);
        fault("pha1--2", 5);
    }

    /** "v (1 .. 99, one or two figures)"; "v out of these: the place behind". */
    private static void values() {
        for (int v = 0; v <= 99; v++) {
            fault("phphdAB:" + v + ":0", v == 0 ? 9 : NONE);
            if (v <= 9) {
                fault("phphdAB:0" + v + ":0", v == 0 ? 10 : NONE);
            }
        }
        fault("phphdAB:000:1", 10);
        fault("phphdAB:001:1", 10);
        fault("phphdAB:100:1", 10);
        fault("phphdAB:-1:1", 8);
        fault("phphdAB:0", 9);
        fault("phphdAB:00", 10);
    }

    /** "INTEREST i (0 .. 9, one figure)". */
    private static void interests() {
        for (int i = 0; i <= 9; i++) {
            fault("phphdAB:1:" + i, NONE);
            fault("phphdAB:1:" + i + "dBA:1:" + i, NONE);
            fault("phphdAB:1:" + i + i, 11);
        }
        fault("phphdAB:1:-1", 10);
        fault("phphdAB:1::", 10);
    }

    /** "A letter, a sign, a figure that is none such: its place", with each of all 256 bytes at each place. */
    private static void everySignAtEveryPlace() {
        byte[] text = bytes("pha1-10a2-3 plAa00-5 dAB:10:9 dBA:7:0 ");
        for (int place = 0; place < text.length; place++) {
            byte was = text[place];
            for (int sign = 0; sign < 256; sign++) {
                text[place] = (byte) sign;
                compare(text);
            }
            text[place] = was;
        }
        EmptyHouse x = new EmptyHouse();
        x.text(0, 2);
        x.put(0, 0, 112 + 256);
        x.put(0, 1, 104 - 512);
        Due.is("what is cut to the bytes of a house is a house", x.village(0), 1);
    }

    /** "The TEXT's size, if its end comes too early": a good text cut at each place. */
    private static void endsTooEarly() {
        String text = "pha1-10a2-3 plAa00-5 dAB:10:9";
        boolean[] whole = new boolean[text.length() + 1];
        for (int end : new int[] {0, 2, 6, 7, 11, 12, 15, 20, 21, 29}) {
            whole[end] = true;
        }
        for (int end = 0; end <= text.length(); end++) {
            fault(text.substring(0, end), whole[end] ? NONE : end);
        }
    }

    private static String randomText() {
        StringBuilder text = new StringBuilder();
        int people = 1 + RANDOM.nextInt(6);
        for (int p = 0; p < people; p++) {
            char house = "hksmly".charAt(p == 0 ? RANDOM.nextInt(3) : RANDOM.nextInt(6));
            text.append('p').append(house);
            if (house == 'm' || house == 'l') {
                text.append((char) ('A' + RANDOM.nextInt(p)));
            }
            for (int span = RANDOM.nextInt(3); span > 0; span--) {
                int from = RANDOM.nextInt(12);
                text.append('a').append(from).append('-').append(from + RANDOM.nextInt(12 - from));
            }
            text.append(" ".repeat(RANDOM.nextInt(2)));
        }
        for (int debts = people < 2 ? 0 : RANDOM.nextInt(9); debts > 0; debts--) {
            int x = RANDOM.nextInt(people);
            int y = (x + 1 + RANDOM.nextInt(people - 1)) % people;
            text.append('d').append((char) ('A' + x)).append((char) ('A' + y));
            text.append(':').append(1 + RANDOM.nextInt(99)).append(':').append(RANDOM.nextInt(10));
            text.append(" ".repeat(RANDOM.nextInt(2)));
        }
        return text.substring(0, Math.min(120, text.length()));
    }

    /** Good texts, and such with some signs taken out, put in or made others. */
    private static void randomTexts() {
        for (int i = 0; i < 6000; i++) {
            StringBuilder text = new StringBuilder(randomText());
            for (int changes = RANDOM.nextInt(3); changes > 0 && text.length() > 0; changes--) {
                int place = RANDOM.nextInt(text.length());
                char sign = SIGNS.charAt(RANDOM.nextInt(SIGNS.length()));
                switch (RANDOM.nextInt(3)) {
                    case 0 -> text.setCharAt(place, sign);
                    case 1 -> text.deleteCharAt(place);
                    default -> text.insert(place, sign);
                }
            }
            text.setLength(Math.min(120, text.length()));
            compare(bytes(text.toString()));
        }
    }

    private static void compare(byte[] text) {
        String name = "'" + new String(text, StandardCharsets.ISO_8859_1) + "'";
        EmptyHouse x = new EmptyHouse();
        write(x, text);
        PlainReader plain = new PlainReader();
        int due = plain.fault(text);
        Due.is("fault of " + name, x.fault(2), due);
        if (due != NONE) {
            Due.is("village by " + name, x.village(2), EmptyHouse.STATE);
            return;
        }
        Due.is("village by " + name, x.village(2), plain.people.size());
        Due.is("debts by " + name, x.count(1), plain.debts.size());
        for (int p = 0; p < plain.people.size(); p++) {
            for (int what = 0; what < 3; what++) {
                Due.told(x, name + ": one(" + p + ", " + what + ")", x.one(p, what), 1, plain.people.get(p)[what]);
            }
        }
        for (int d = 0; d < plain.debts.size(); d++) {
            for (int what = 0; what < 4; what++) {
                Due.told(x, name + ": debt(" + d + ", " + what + ")", x.debt(d, what), 1, plain.debts.get(d)[what]);
            }
        }
    }
}
