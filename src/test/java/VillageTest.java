/** Promises 12 to 17: people, houses, debts, laws, cards and habits. */
public final class VillageTest {
    private static final int UNLIKE = 3;
    private static final int NONE = EmptyHouse.NONE;

    public static void main(String[] args) {
        one();
        mark();
        markRefused();
        debt();
        law();
        cards();
        habit();
        Due.end();
    }

    private static EmptyHouse sixHouses() {
        return Due.village("pha0-2 pka2-5 psa7-7 pmAa1-4 plBa4-9 pya3-6 dAC:5:1dBC:6:2dCA:7:3");
    }

    private static void one() {
        EmptyHouse x = sixHouses();
        int[] kinds = {0, 1, 2, 3, 4, 5};
        int[] mates = {NONE, NONE, NONE, 0, 1, NONE};
        for (int p = 0; p < 6; p++) {
            Due.told(x, "kind of " + p, x.one(p, 0), 1, kinds[p]);
            Due.told(x, "mate of " + p, x.one(p, 1), 1, mates[p]);
        }
        Due.told(x, "hours of 4", x.one(4, 2), 1, 0x3F0);
        Due.told(x, "cards of 4", x.one(4, 3), 1, 5);
        Due.is("one 6", x.one(6, 0), -1);
        Due.is("one -1", x.one(-1, 0), -1);
        Due.is("what 4", x.one(0, 4), -1);
        Due.is("what -1", x.one(0, -1), -1);
        Due.is("refused: asked stays", x.asked(), 5);
    }

    private static void mark() {
        EmptyHouse x = sixHouses();
        Due.is("kennel: out at 2 3 4 5, dog in at 2 4", x.mark(1, 1), 2);
        Due.is("yard as kennel: the dog is always in", x.mark(5, 1), 4);
        Due.is("yard", x.mark(5, 5), 4);
        Due.is("sickroom: owed to it", x.mark(2, 2), 2);
        Due.is("shared", x.mark(3, 3), 0);
        Due.is("lodge as shared", x.mark(4, 3), 1);
        Due.is("lodge: 2 3 and 6 7 8 9", x.mark(4, 4), 6);
        EmptyHouse most = Due.village("ps ph dBA:1:1dBA:1:1dBA:1:1dBA:1:1dBA:1:1dBA:1:1dBA:1:1dBA:1:1");
        Due.is("sickroom: eight are owed to it", most.mark(0, 2), 8);
        x.habit(1, 0, 1);
        x.habit(1, 1, 1);
        Due.is("kennel: hour 0 more, hour 1 not", x.mark(1, 1), 3);
        Due.is("lodge: 0 1 more", x.mark(4, 4), 8);
        x.law(3);
        Due.is("a paid debt is owed to it still", x.pay(0, 0), 5);
        Due.is("sickroom: as many", x.mark(2, 2), 2);
    }

    private static void markRefused() {
        EmptyHouse x = sixHouses();
        int[][] is = {{}, {1}, {2}, {3}, {3, 4}, {1, 5}};
        for (int p = 0; p < 6; p++) {
            for (int kind = 1; kind <= 5; kind++) {
                boolean alike = false;
                for (int k : is[p]) {
                    alike |= k == kind;
                }
                if (!alike) {
                    Due.finding(x, "mark(" + p + ", " + kind + ")", x.mark(p, kind), UNLIKE);
                }
            }
            Due.is("mark as a house " + p, x.mark(p, 0), -1);
        }
        Due.is("findings", x.findings(UNLIKE), 23);
        Due.is("mark 6", x.mark(6, 1), -1);
        Due.is("mark -1", x.mark(-1, 1), -1);
        Due.is("kind 6", x.mark(1, 6), -1);
        Due.is("kind -1", x.mark(1, -1), -1);
        Due.is("mark is not told by asked", x.asked(), 0);
    }

    private static void debt() {
        EmptyHouse x = Due.village("pha0-5 pha3-9 dAB:50:1dBA:9:8");
        int[] due = {1, 0, 9, 8, NONE};
        for (int what = 0; what < 5; what++) {
            Due.told(x, "debt(1, " + what + ")", x.debt(1, what), 1, due[what]);
        }
        x.pay(1, 4);
        Due.told(x, "paid in", x.debt(1, 4), 1, 4);
        Due.told(x, "the other one is not", x.debt(0, 4), 1, NONE);
        x.unpay(1);
        Due.told(x, "not any more", x.debt(1, 4), 1, NONE);
        Due.is("debt 2", x.debt(2, 0), -1);
        Due.is("debt -1", x.debt(-1, 0), -1);
        Due.is("what 5", x.debt(0, 5), -1);
        Due.is("what -1", x.debt(0, -1), -1);
    }

    private static void law() {
        EmptyHouse x = new EmptyHouse();
        Due.is("law 2", x.law(2), 0);
        Due.is("law 4", x.law(4), -1);
        Due.is("law -1", x.law(-1), -1);
        Due.is("law 3", x.law(3), 2);
        Due.is("law 1", x.law(1), 3);
        Due.is("law 1 again", x.law(1), 1);
    }

    private static void cards() {
        EmptyHouse x = sixHouses();
        Due.is("cards 99", x.cards(5, 99), 5);
        Due.is("cards 0", x.cards(5, 0), 99);
        Due.told(x, "cards", x.one(5, 3), 1, 0);
        Due.told(x, "another one's", x.one(4, 3), 1, 5);
        Due.is("cards 100", x.cards(5, 100), -1);
        Due.is("cards -1", x.cards(5, -1), -1);
        Due.is("cards of 6", x.cards(6, 1), -1);
        Due.is("cards of -1", x.cards(-1, 1), -1);
        Due.is("cards as they were", x.cards(5, 5), 0);
    }

    private static void habit() {
        EmptyHouse x = sixHouses();
        Due.is("out at 11", x.habit(0, 11, 1), 0);
        Due.is("out at 11 still", x.habit(0, 11, 1), 1);
        Due.told(x, "hours", x.one(0, 2), 1, 0x807);
        Due.is("in at 0", x.habit(0, 0, 0), 1);
        Due.is("in at 0 still", x.habit(0, 0, 0), 0);
        Due.told(x, "hours behind it", x.one(0, 2), 1, 0x806);
        Due.is("habit of 6", x.habit(6, 0, 1), -1);
        Due.is("habit of -1", x.habit(-1, 0, 1), -1);
        Due.is("hour 12", x.habit(0, 12, 1), -1);
        Due.is("hour -1", x.habit(0, -1, 1), -1);
        Due.is("is 2", x.habit(0, 0, 2), -1);
        Due.is("is -1", x.habit(0, 0, -1), -1);
        Due.told(x, "hours as they were", x.one(0, 2), 1, 0x806);
    }
}
