import java.util.ArrayList;
import java.util.List;

/** A second reader of villages, sign by sign: at each place it knows only what it wants next. */
final class PlainReader {
    private enum Wants {
        ITEM, HOUSE, MATE, HOURS_OR_ITEM, FROM, FROM_OR_DASH, DASH, TO, TO_OR_ITEM, DEBTOR, CREDITOR, FIRST_COLON, VALUE,
        VALUE_OR_COLON, SECOND_COLON, INTEREST, NOTHING
    }

    /** People are kind, mate, hours; debts are debtor, creditor, value, interest. */
    final List<int[]> people = new ArrayList<>();
    final List<int[]> debts = new ArrayList<>();
    private Wants wants = Wants.ITEM;
    private int number = 0;
    private int from = 0;

    /** The place of the first fault, or NONE. */
    int fault(byte[] text) {
        for (int place = 0; place < text.length; place++) {
            if (!goesOn((char) (text[place] & 255))) {
                return place;
            }
        }
        if (wants == Wants.TO_OR_ITEM && number >= from) {
            addHours();
        }
        return wants == Wants.ITEM || wants == Wants.HOURS_OR_ITEM ? EmptyHouse.NONE : text.length;
    }

    private boolean goesOn(char c) {
        switch (wants) {
            case ITEM:
                return item(c);
            case HOUSE:
                return house(c);
            case MATE:
                // The one whose house it is has been told with the letter p already, but is not one told ahead.
                return letter(c, people.size() - 1, last(people), 1, Wants.HOURS_OR_ITEM);
            case HOURS_OR_ITEM:
                return c == 'a' ? then(Wants.FROM) : item(c);
            case DEBTOR:
                return letter(c, people.size(), last(debts), 0, Wants.CREDITOR);
            case CREDITOR:
                return c != 'A' + last(debts)[0] && letter(c, people.size(), last(debts), 1, Wants.FIRST_COLON);
            case FIRST_COLON:
                return c == ':' && then(Wants.VALUE);
            case SECOND_COLON:
                return c == ':' && then(Wants.INTEREST);
            case DASH:
                return c == '-' && then(Wants.TO);
            case INTEREST:
                return figure(c) && interest();
            case NOTHING:
                return false;
            default:
                return ofNumber(c);
        }
    }

    private boolean ofNumber(char c) {
        switch (wants) {
            case FROM:
                number = 0;
                return figure(c) && then(Wants.FROM_OR_DASH);
            case FROM_OR_DASH:
                if (figure(c)) {
                    from = number;
                    return then(number <= 11 ? Wants.DASH : Wants.NOTHING);
                }
                from = number;
                return c == '-' && then(Wants.TO);
            case TO:
                number = 0;
                return figure(c) && then(Wants.TO_OR_ITEM);
            case TO_OR_ITEM:
                if (figure(c)) {
                    return number <= 11 && number >= from ? addHours() : then(Wants.NOTHING);
                }
                return number >= from && addHours() && goesOn(c);
            case VALUE:
                number = 0;
                return figure(c) && then(Wants.VALUE_OR_COLON);
            default:
                if (figure(c)) {
                    last(debts)[2] = number;
                    return then(number >= 1 ? Wants.SECOND_COLON : Wants.NOTHING);
                }
                last(debts)[2] = number;
                return number >= 1 && c == ':' && then(Wants.INTEREST);
        }
    }

    private boolean then(Wants next) {
        wants = next;
        return true;
    }

    private boolean item(char c) {
        if (c == 'p' && people.size() < 6) {
            people.add(new int[] {0, EmptyHouse.NONE, 0});
            return then(Wants.HOUSE);
        }
        if (c == 'd' && debts.size() < 8) {
            debts.add(new int[4]);
            return then(Wants.DEBTOR);
        }
        return c == ' ' && then(Wants.ITEM);
    }

    private boolean house(char c) {
        int kind = "hksmly".indexOf(c);
        last(people)[0] = kind;
        return kind >= 0 && then(kind == 3 || kind == 4 ? Wants.MATE : Wants.HOURS_OR_ITEM);
    }

    private boolean letter(char c, int told, int[] item, int what, Wants next) {
        item[what] = c - 'A';
        return c >= 'A' && c < 'A' + told && then(next);
    }

    private boolean figure(char c) {
        if (c < '0' || c > '9') {
            return false;
        }
        number = 10 * number + c - '0';
        return true;
    }

    private boolean interest() {
        last(debts)[3] = number % 10;
        return then(Wants.ITEM);
    }

    private boolean addHours() {
        for (int t = from; t <= number; t++) {
            last(people)[2] |= 1 << t;
        }
        return then(Wants.HOURS_OR_ITEM);
    }

    private static int[] last(List<int[]> items) {
        return items.get(items.size() - 1);
    }
}
