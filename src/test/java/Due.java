/** What every test needs: to say which answer is due, and to write villages and rounds down. */
final class Due {
    private static int wrong = 0;
    private static int asked = 0;

    private Due() {
    }

    static void is(String what, long got, long want) {
        asked++;
        if (got != want) {
            wrong++;
            System.out.println(what + " answered " + got + ", due is " + want);
        }
    }

    /** An answer and what asked() tells behind it. */
    static void told(EmptyHouse x, String what, int got, int want, int wantTold) {
        is(what, got, want);
        is("asked() behind " + what, x.asked(), wantTold);
    }

    /** A call that is refused by a finding, the kind of which is due. */
    static void finding(EmptyHouse x, String what, int got, int kind) {
        is(what, got, EmptyHouse.FINDING);
        is("finding() behind " + what, x.finding(), kind);
    }

    static void write(EmptyHouse x, int t, String text) {
        is("text of " + text, x.text(t, text.length()), text.length());
        for (int i = 0; i < text.length(); i++) {
            x.put(t, i, text.charAt(i));
        }
    }

    static EmptyHouse village(String text) {
        EmptyHouse x = new EmptyHouse();
        write(x, 0, text);
        int people = x.village(0);
        if (people < 0) {
            is("village of " + text, people, text.chars().filter(c -> c == 'p').count());
        }
        return x;
    }

    static void round(EmptyHouse x, int r, int... hours) {
        x.row(r, hours.length);
        for (int d = 0; d < hours.length; d++) {
            x.lay(r, d, hours[d]);
        }
    }

    static void end() {
        System.out.println(asked + " answers, " + wrong + " not as due");
        if (wrong != 0 || asked == 0) {
            System.exit(1);
        }
    }
}
