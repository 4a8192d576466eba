/** Promises 1 to 9: a new object, rows and the bytes of texts. */
public final class RowsTest {
    private static final int NOTHING = 1, BEYOND = 2, NOUGHT = 4, SIZE = 5;

    public static void main(String[] args) {
        newObject();
        newObjectAnswers();
        row();
        rowAnew();
        layAndAt();
        tear();
        copy();
        copyRefused();
        copyAllOfSixty();
        mean();
        meanIsCut();
        text();
        put();
        putIsCut();
        Due.end();
    }

    private static void newObject() {
        EmptyHouse x = new EmptyHouse();
        for (int what = 0; what < 8; what++) {
            Due.is("new: count " + what, x.count(what), 0);
        }
        for (int r = 0; r < 6; r++) {
            Due.finding(x, "new: at in row " + r, x.at(r, 0), NOTHING);
        }
        for (int t = 0; t < 4; t++) {
            Due.finding(x, "new: put in text " + t, x.put(t, 0, 0), NOTHING);
        }
        for (int k = 0; k < 3; k++) {
            Due.finding(x, "new: on " + k, x.on(k), NOTHING);
        }
        Due.is("new: law", x.law(0), 0);
        Due.is("new: asked", x.asked(), 0);
        Due.is("new: upper", x.upper(), 0);
        Due.is("new: lower", x.lower(), 1);
        EmptyHouse fresh = new EmptyHouse();
        Due.is("new: finding", fresh.finding(), 0);
        for (int f = 1; f <= 5; f++) {
            Due.is("new: findings " + f, fresh.findings(f), 0);
        }
    }

    /** Without people and debts each call of a village answers as for none. */
    private static void newObjectAnswers() {
        EmptyHouse x = new EmptyHouse();
        for (int t = 0; t < 12; t++) {
            Due.told(x, "new: hour " + t, x.hour(t), 0, 0);
            Due.told(x, "new: few at " + t, x.few(t, 1), EmptyHouse.NONE, 0);
        }
        Due.told(x, "new: best", x.best(4), 0, 0);
        Due.is("new: the best round is a row of none", x.row(4, 0), 0);
        Due.told(x, "new: judge", x.judge(4), 0, 0);
        Due.told(x, "new: worth", x.worth(4), 0, 0);
        Due.told(x, "new: liars", x.liars(4), 0, 0);
        Due.told(x, "new: soonest", x.soonest(), 0, 0);
        Due.told(x, "new: rings", x.rings(), 0, 0);
        Due.told(x, "new: call", x.call(), EmptyHouse.NONE, 0);
        Due.told(x, "new: paid", x.paid(), 0, 0);
        Due.is("new: ways", x.ways(), 1);
        Due.is("new: one way, to pay nothing", x.upper(), 1);
        Due.is("new: keep", x.keep(0), 0);
        Due.is("new: on", x.on(0), 0);
        Due.is("new: on another place is a finding", x.on(1), EmptyHouse.FINDING);
        x.row(5, 1);
        Due.finding(x, "new: judge of a row of one", x.judge(5), SIZE);
    }

    /** A row anew has 0 in all its places, whatever stood in a longer or a shorter one. */
    private static void rowAnew() {
        EmptyHouse x = new EmptyHouse();
        for (int n : new int[] {60, 1, 60, 0, 60, 59, 60}) {
            Due.is("row of " + n, x.row(3, n), n);
            for (int i = 0; i < n; i++) {
                Due.told(x, "lay behind row of " + n, x.lay(3, i, 100 + i), 1, 0);
            }
            Due.finding(x, "lay behind its end", x.lay(3, n, 1), BEYOND);
        }
        Due.is("one row is there", x.count(6), 1);
        Due.finding(x, "the others are missing", x.at(2, 0), NOTHING);
    }

    private static void row() {
        EmptyHouse x = new EmptyHouse();
        Due.is("row 0 of 60", x.row(0, 60), 60);
        Due.is("row 5 of 0", x.row(5, 0), 0);
        Due.is("lay at the end", x.lay(0, 59, 7), 1);
        Due.is("row 0 anew", x.row(0, 60), 60);
        Due.told(x, "at behind row anew", x.at(0, 59), 1, 0);
        Due.is("row 0 smaller", x.row(0, 2), 2);
        Due.finding(x, "at behind the smaller row", x.at(0, 2), BEYOND);
        Due.is("row -1", x.row(-1, 1), -1);
        Due.is("row 6", x.row(6, 1), -1);
        Due.is("row of 61", x.row(1, 61), -1);
        Due.finding(x, "row of -1", x.row(0, -1), SIZE);
        Due.is("row 6 of -1 is bad first", x.row(6, -1), -1);
        Due.is("refused: row 0 stays", x.at(0, 1), 1);
        Due.is("refused: row 1 is not there", x.count(6), 2);
        Due.finding(x, "row of the least int", x.row(0, Integer.MIN_VALUE), SIZE);
        Due.is("row of the greatest int", x.row(0, Integer.MAX_VALUE), -1);
    }

    private static void layAndAt() {
        EmptyHouse x = new EmptyHouse();
        x.row(2, 3);
        Due.told(x, "lay first", x.lay(2, 1, -77), 1, 0);
        Due.told(x, "lay again", x.lay(2, 1, Integer.MAX_VALUE), 1, -77);
        Due.told(x, "at", x.at(2, 1), 1, Integer.MAX_VALUE);
        Due.told(x, "at beside", x.at(2, 2), 1, 0);
        Due.told(x, "at behind it", x.at(2, 1), 1, Integer.MAX_VALUE);
        Due.is("lay row 6", x.lay(6, 0, 1), -1);
        Due.is("lay row -1", x.lay(-1, 0, 1), -1);
        Due.is("at row 6", x.at(6, 0), -1);
        Due.is("at row -1", x.at(-1, 0), -1);
        Due.finding(x, "lay missing", x.lay(3, 0, 1), NOTHING);
        Due.finding(x, "lay beyond", x.lay(2, 3, 1), BEYOND);
        Due.finding(x, "at missing, place beyond too", x.at(3, -1), NOTHING);
        Due.finding(x, "lay ahead", x.lay(2, -1, 1), BEYOND);
        Due.finding(x, "at beyond", x.at(2, 3), BEYOND);
        Due.finding(x, "at far beyond", x.at(2, Integer.MAX_VALUE), BEYOND);
        Due.finding(x, "at far ahead", x.at(2, Integer.MIN_VALUE), BEYOND);
        Due.is("refused: asked stays", x.asked(), Integer.MAX_VALUE);
    }

    private static void tear() {
        EmptyHouse x = new EmptyHouse();
        x.row(4, 2);
        x.lay(4, 0, 9);
        Due.is("tear", x.tear(4), 1);
        Due.finding(x, "at in a torn row", x.at(4, 0), NOTHING);
        Due.finding(x, "tear twice", x.tear(4), NOTHING);
        Due.is("tear 6", x.tear(6), -1);
        Due.is("tear -1", x.tear(-1), -1);
        x.row(4, 2);
        Due.told(x, "a row made anew is 0", x.at(4, 0), 1, 0);
    }

    private static void copy() {
        EmptyHouse x = new EmptyHouse();
        Due.round(x, 0, 1, 2, 3, 4, 5);
        Due.round(x, 1, 10, 20, 30);
        Due.is("copy", x.copy(0, 3, 1, 0, 2), 1);
        places(x, 1, 4, 5, 30);
        Due.is("copy onto itself, behind", x.copy(0, 0, 0, 1, 4), 1);
        places(x, 0, 1, 1, 2, 3, 4);
        Due.is("copy onto itself, ahead", x.copy(0, 1, 0, 0, 4), 1);
        places(x, 0, 1, 2, 3, 4, 4);
        Due.is("copy none at both ends", x.copy(0, 5, 1, 3, 0), 1);
        Due.is("copy all", x.copy(1, 0, 0, 2, 3), 1);
        places(x, 0, 1, 2, 4, 5, 30);
        places(x, 1, 4, 5, 30);
    }

    private static void copyRefused() {
        EmptyHouse x = new EmptyHouse();
        Due.round(x, 0, 1, 2, 3, 4, 5);
        Due.round(x, 1, 10, 20, 30);
        Due.is("copy from row 6", x.copy(6, 0, 1, 0, 1), -1);
        Due.is("copy to row 6", x.copy(0, 0, 6, 0, 1), -1);
        Due.is("copy from row -1", x.copy(-1, 0, 1, 0, 1), -1);
        Due.is("copy to row -1", x.copy(0, 0, -1, 0, -1), -1);
        Due.finding(x, "copy -1, missing too", x.copy(5, 0, 1, 0, -1), SIZE);
        Due.finding(x, "copy from a missing one, beyond too", x.copy(5, 99, 1, 0, 1), NOTHING);
        Due.finding(x, "copy to a missing one", x.copy(0, 0, 5, 0, 0), NOTHING);
        Due.finding(x, "copy one too many from", x.copy(1, 2, 0, 0, 2), BEYOND);
        Due.finding(x, "copy one too many to", x.copy(0, 0, 1, 2, 2), BEYOND);
        Due.finding(x, "copy from -1", x.copy(0, -1, 1, 0, 1), BEYOND);
        Due.finding(x, "copy to -1", x.copy(0, 0, 1, -1, 1), BEYOND);
        Due.finding(x, "copy none from behind the end", x.copy(0, 6, 1, 0, 0), BEYOND);
        Due.finding(x, "copy none to behind the end", x.copy(0, 0, 1, 4, 0), BEYOND);
        Due.finding(x, "copy so that the sum wraps", x.copy(0, 5, 1, 0, Integer.MAX_VALUE), BEYOND);
        Due.finding(x, "copy from so far that it wraps", x.copy(0, Integer.MAX_VALUE, 1, 0, 1), BEYOND);
        places(x, 0, 1, 2, 3, 4, 5);
        places(x, 1, 10, 20, 30);
    }

    private static void places(EmptyHouse x, int r, int... due) {
        for (int i = 0; i < due.length; i++) {
            Due.told(x, "place " + i + " of row " + r, x.at(r, i), 1, due[i]);
        }
    }

    private static void copyAllOfSixty() {
        EmptyHouse x = new EmptyHouse();
        x.row(0, 60);
        x.row(1, 60);
        for (int i = 0; i < 60; i++) {
            x.lay(0, i, i + 1);
        }
        Due.is("copy sixty", x.copy(0, 0, 1, 0, 60), 1);
        Due.is("copy sixty onto themselves", x.copy(0, 0, 0, 0, 60), 1);
        Due.is("copy one place back", x.copy(0, 0, 0, 1, 59), 1);
        Due.is("copy two places ahead", x.copy(1, 2, 1, 0, 58), 1);
        for (int i = 0; i < 60; i++) {
            Due.told(x, "one back, place " + i, x.at(0, i), 1, Math.max(1, i));
            Due.told(x, "two ahead, place " + i, x.at(1, i), 1, i < 58 ? i + 3 : i + 1);
        }
        Due.is("copy is not told by asked", x.copy(0, 0, 1, 0, 1) + x.asked(), 1 + 60);
    }

    private static void meanOf(int due, int... row) {
        EmptyHouse x = new EmptyHouse();
        Due.round(x, 0, row);
        Due.told(x, "mean of " + java.util.Arrays.toString(row), x.mean(0), 1, due);
    }

    private static void meanIsCut() {
        meanOf(0, -1, 0);
        meanOf(0, 1, 0);
        meanOf(0, -2, 0, 0);
        meanOf(-1, -3, 0);
        meanOf(1, 3, 0);
        meanOf(0, Integer.MAX_VALUE, Integer.MIN_VALUE);
        meanOf(-1, Integer.MIN_VALUE, Integer.MAX_VALUE, -2);
        meanOf(Integer.MAX_VALUE - 1, Integer.MAX_VALUE, Integer.MAX_VALUE - 1);
        int[] sixty = new int[60];
        java.util.Arrays.fill(sixty, Integer.MIN_VALUE);
        meanOf(Integer.MIN_VALUE, sixty);
        java.util.Arrays.fill(sixty, Integer.MAX_VALUE);
        meanOf(Integer.MAX_VALUE, sixty);
        sixty[59]--;
        meanOf(Integer.MAX_VALUE - 1, sixty);
    }

    private static void mean() {
        EmptyHouse x = new EmptyHouse();
        Due.round(x, 0, 1, 2, 5);
        Due.told(x, "mean of 1 2 5", x.mean(0), 1, 2);
        Due.round(x, 0, -1, -2, -5, -3);
        Due.told(x, "mean below 0 is cut, not floored", x.mean(0), 1, -2);
        Due.round(x, 0, Integer.MAX_VALUE, Integer.MAX_VALUE, Integer.MAX_VALUE);
        Due.told(x, "mean of greatest ints", x.mean(0), 1, Integer.MAX_VALUE);
        Due.round(x, 0, Integer.MIN_VALUE, Integer.MIN_VALUE);
        Due.told(x, "mean of least ints", x.mean(0), 1, Integer.MIN_VALUE);
        Due.round(x, 1, 8);
        Due.told(x, "mean of one", x.mean(1), 1, 8);
        x.row(1, 60);
        x.lay(1, 59, 599);
        Due.told(x, "mean of sixty", x.mean(1), 1, 9);
        x.lay(1, 59, 480);
        Due.told(x, "mean of sixty again", x.mean(1), 1, 8);
        Due.is("mean 6", x.mean(6), -1);
        Due.is("mean -1", x.mean(-1), -1);
        Due.finding(x, "mean of a missing one", x.mean(3), NOTHING);
        x.row(3, 0);
        Due.finding(x, "mean of none", x.mean(3), NOUGHT);
        Due.is("refused: asked stays", x.asked(), 8);
    }

    private static void text() {
        EmptyHouse x = new EmptyHouse();
        Due.is("text of 120", x.text(3, 120), 120);
        Due.is("last byte is blank", x.put(3, 119, 65), 1032);
        Due.is("text of 0", x.text(0, 0), 0);
        Due.is("text anew", x.text(3, 120), 120);
        Due.is("blank again", x.put(3, 119, 65), 1032);
        Due.is("text 4", x.text(4, 1), -1);
        Due.is("text -1", x.text(-1, 1), -1);
        Due.is("text of 121", x.text(1, 121), -1);
        Due.finding(x, "text of -1", x.text(1, -1), SIZE);
        Due.is("text 4 of -1 is bad first", x.text(4, -1), -1);
        Due.is("texts there", x.count(7), 2);
        Due.is("refused: text 3 stays", x.put(3, 119, 0), 1065);
    }

    private static void put() {
        EmptyHouse x = new EmptyHouse();
        x.text(2, 2);
        Due.is("put 200", x.put(2, 0, 200), 1032);
        Due.is("what was 200 is -56 as a byte", x.put(2, 0, 256 + 7), 944);
        Due.is("what was 263 is 7", x.put(2, 0, -1), 1007);
        Due.is("what was -1", x.put(2, 0, 128), 999);
        Due.is("what was 128", x.put(2, 0, 0), 872);
        Due.is("beside it", x.put(2, 1, 0), 1032);
        Due.is("put in text 4", x.put(4, 0, 0), -1);
        Due.is("put in text -1", x.put(-1, 0, 0), -1);
        Due.finding(x, "put in a missing one, beyond too", x.put(1, -1, 0), NOTHING);
        Due.finding(x, "put beyond", x.put(2, 2, 0), BEYOND);
        Due.finding(x, "put ahead", x.put(2, -1, 0), BEYOND);
        Due.is("put is not told by asked", x.asked(), 0);
    }

    /** What was put is told as the byte that it is by the next one. */
    private static void putIsCut() {
        int[] put = {0, 127, 128, 129, 255, 256, 257, 383, 384, -1, -128, -129, -256, -257, 1000, Integer.MAX_VALUE,
            Integer.MIN_VALUE};
        int[] bytes = {0, 127, -128, -127, -1, 0, 1, 127, -128, -1, -128, 127, 0, -1, -24, -1, 0};
        EmptyHouse x = new EmptyHouse();
        x.text(3, 120);
        int was = 32;
        for (int i = 0; i < put.length; i++) {
            Due.is("put " + put[i], x.put(3, 119, put[i]), 1000 + was);
            was = bytes[i];
        }
        Due.is("put at last", x.put(3, 119, 0), 1000 + was);
    }
}
