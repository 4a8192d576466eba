/** Terms: kinds of houses, laws, when a debt can be paid and what it costs, in every hour there is. */
public final class KindsTest {
    private static final int NONE = EmptyHouse.NONE;
    private static final String[] WHO_IS_OUT = {"nobody", "who lives there", "the other one", "both"};

    public static void main(String[] args) {
        house();
        kennel();
        sickroom();
        shared();
        lodge();
        yard();
        theOtherHouse();
        debtorOut();
        costs();
        isA();
        marks();
        Due.end();
    }

    private static int hours(String told) {
        return switch (told) {
            case "none" -> 0;
            case "all" -> 0xFFF;
            case "odd" -> 0xAAA;
            case "late" -> 0xF00;
            default -> throw new IllegalArgumentException(told);
        };
    }

    /** The hours in which a house is empty by a law if nobody is out, who lives there, the other one, both. */
    private static void empty(String sign, int law, String... due) {
        for (int who = 0; who < 4; who++) {
            String other = "ph" + ((who & 2) != 0 ? "a0-11" : "");
            EmptyHouse x = Due.village(other + " p" + sign + ((who & 1) != 0 ? "a0-11" : ""));
            x.law(law);
            Due.is(sign + " by law " + law + ", out: " + WHO_IS_OUT[who], x.empty(1), hours(due[who]));
        }
    }

    private static void house() {
        empty("h", 0, "none", "all", "none", "all");
        empty("h", 1, "none", "all", "none", "all");
        empty("h", 2, "none", "late", "none", "late");
        empty("h", 3, "all", "none", "all", "none");
    }

    private static void kennel() {
        empty("k", 0, "none", "all", "none", "all");
        empty("k", 1, "none", "odd", "none", "odd");
        empty("k", 2, "none", "late", "none", "late");
        empty("k", 3, "all", "none", "all", "none");
    }

    private static void sickroom() {
        for (int law = 0; law <= 2; law++) {
            empty("s", law, "none", "none", "none", "none");
        }
        empty("s", 3, "all", "all", "all", "all");
    }

    private static void shared() {
        empty("mA", 0, "none", "none", "none", "all");
        empty("mA", 1, "none", "none", "none", "all");
        empty("mA", 2, "none", "none", "none", "late");
        empty("mA", 3, "all", "all", "all", "none");
    }

    private static void lodge() {
        empty("lA", 0, "none", "all", "all", "all");
        empty("lA", 1, "none", "all", "all", "all");
        empty("lA", 2, "none", "late", "late", "late");
        empty("lA", 3, "all", "none", "none", "none");
    }

    private static void yard() {
        empty("y", 0, "none", "all", "none", "all");
        empty("y", 1, "none", "none", "none", "none");
        empty("y", 2, "none", "late", "none", "late");
        empty("y", 3, "all", "none", "all", "none");
    }

    /** The house of the other one is that one's own: it is neither shared nor has it a dog. */
    private static void theOtherHouse() {
        for (String sign : new String[] {"k", "s", "mA", "lA", "y"}) {
            EmptyHouse x = Due.village("pha0-11 p" + sign);
            int[] due = {0xFFF, 0xFFF, 0xF00, 0};
            for (int law = 0; law < 4; law++) {
                x.law(law);
                Due.is("the other one's house beside " + sign + " by law " + law, x.empty(0), due[law]);
            }
        }
        // What is shared with one whose house has a dog in has none itself.
        EmptyHouse y = Due.village("pya0-11 pmAa0-11 plA");
        y.law(1);
        Due.is("shared with a yard", y.empty(1), 0xFFF);
        Due.is("lodge with a yard", y.empty(2), 0xFFF);
        EmptyHouse z = Due.village("psa0-11 pmAa0-11 plA");
        Due.is("shared with a sickroom", z.empty(1), 0xFFF);
        Due.is("lodge with a sickroom", z.empty(2), 0xFFF);
    }

    /** "DEBT x to y can be PAID in an HOUR, if x is OUT and the HOUSE of y EMPTY." */
    private static void debtorOut() {
        for (int t = 0; t < 12; t++) {
            for (int who = 0; who < 4; who++) {
                EmptyHouse x = Due.village("ph ph dAB:5:1");
                x.habit(0, t, who & 1);
                x.habit(1, t, who >> 1);
                int can = who == 3 ? 1 : 0;
                Due.is("when at " + t + ", out: " + who, x.when(0), can << t);
                Due.told(x, "hour " + t + ", out: " + who, x.hour(t), can, can);
                Due.is("pay at " + t + ", out: " + who, x.pay(0, t), can == 1 ? 5 + t : EmptyHouse.STATE);
            }
        }
    }

    /** "Costs v and t times INTEREST together; one that is not v and 12 times INTEREST." */
    private static void costs() {
        for (int t = 0; t < 12; t++) {
            EmptyHouse x = Due.village("pha0-11 pha0-11 dAB:99:9");
            Due.round(x, 0, t);
            Due.told(x, "worth of hour " + t, x.worth(0), 99 + 9 * t, t + 1);
            Due.is("pay in hour " + t, x.pay(0, t), 99 + 9 * t);
            Due.told(x, "paid in hour " + t, x.paid(), 99 + 9 * t, 0);
        }
        EmptyHouse x = Due.village("pha0-11 pha0-11 dAB:99:9");
        Due.round(x, 0, NONE);
        Due.told(x, "worth of none", x.worth(0), 99 + 108, 0);
        Due.told(x, "paid: none", x.paid(), 0, 99 + 108);
        EmptyHouse y = Due.village("pha11-11 pha11-11 dAB:1:0");
        Due.told(y, "without interest", y.best(0), 1, 1);
        Due.told(y, "the last end", y.soonest(), 12, 1);
    }

    /** "5 YARD (a KENNEL ..)", "4 LODGE (a SHARED)"; all are houses, but KIND 0 is not marked. */
    private static void isA() {
        String[] texts = {"h", "k", "s", "mA", "lA", "y"};
        boolean[][] is = {
            {false, false, false, false, false, false},
            {false, true, false, false, false, false},
            {false, false, true, false, false, false},
            {false, false, false, true, false, false},
            {false, false, false, true, true, false},
            {false, true, false, false, false, true}};
        for (int kind = 0; kind < 6; kind++) {
            EmptyHouse x = Due.village("ph p" + texts[kind]);
            Due.told(x, "kind of " + texts[kind], x.one(1, 0), 1, kind);
            Due.told(x, "mate of " + texts[kind], x.one(1, 1), 1, kind == 3 || kind == 4 ? 0 : NONE);
            Due.is("mark of " + texts[kind] + " as a house", x.mark(1, 0), EmptyHouse.BAD);
            for (int as = 1; as < 6; as++) {
                if (is[kind][as]) {
                    Due.is("mark of " + texts[kind] + " as " + as, x.mark(1, as), 0);
                } else {
                    Due.finding(x, "mark of " + texts[kind] + " as " + as, x.mark(1, as), 3);
                }
            }
            Due.is("kennels with " + texts[kind], x.count(3), is[kind][1] ? 1 : 0);
            Due.is("shared ones with " + texts[kind], x.count(4), is[kind][3] ? 1 : 0);
        }
    }

    /** The dog of a kennel is in on each even hour, that of a yard on all, whatever the law. */
    private static void marks() {
        for (int t = 0; t < 12; t++) {
            EmptyHouse x = Due.village("ph pk py plA");
            for (int p = 1; p < 4; p++) {
                x.habit(p, t, 1);
            }
            for (int law = 0; law < 4; law++) {
                x.law(law);
                Due.is("kennel in hour " + t, x.mark(1, 1), t % 2 == 0 ? 1 : 0);
                Due.is("yard as kennel in hour " + t, x.mark(2, 1), 1);
                Due.is("yard in hour " + t, x.mark(2, 5), 1);
                Due.is("lodge, one out in hour " + t, x.mark(3, 4), 1);
            }
            x.habit(0, t, 1);
            Due.is("lodge, both out in hour " + t, x.mark(3, 4), 0);
            x.habit(3, t, 0);
            Due.is("lodge, the other one out in hour " + t, x.mark(3, 4), 1);
        }
    }
}
