import java.util.NoSuchElementException;

/** What the tests of the promises share: a text is fed in, an answer and the ROW are held against what is due. */
class Checks {
    static final int NONE = -1;
    private int wrong;
    private int done;
    WordsUnsaid x = new WordsUnsaid();

    interface Told {
        int ask() throws NoSuchElementException;
    }

    void due(String what, long got, long want) {
        done++;
        if (got != want) {
            wrong++;
            System.out.println(what + " answered " + got + ", due is " + want);
        }
    }

    void due(String what, boolean got, boolean want) {
        due(what, got ? 1 : 0, want ? 1 : 0);
    }

    void dueRow(String what, int... want) {
        due(what + ": numbers of the ROW", x.count(10), want.length);
        for (int k = 0; k < want.length && k < x.count(10); k++) {
            due(what + ": row(" + k + ")", x.row(k), want[k]);
        }
    }

    void dueThrow(String what, Told told) {
        boolean thrown = false;
        try {
            told.ask();
        } catch (NoSuchElementException e) {
            thrown = true;
        }
        due(what + " throws NoSuchElementException", thrown, true);
    }

    /** THE TEXT is t then (80 signs at most). */
    WordsUnsaid feed(String t) {
        x.end(0);
        for (int k = 0; k < t.length(); k += 4) {
            int v = 0;
            for (int j = k; j < k + 4; j++) {
                v = v << 8 | (j < t.length() ? t.charAt(j) : 0);
            }
            x.sign(v);
        }
        due("end(" + t.length() + ") of \"" + t + "\"", x.end(t.length()), true);
        return x;
    }

    int river(String t) {
        return feed(t).river();
    }

    int house(String t) {
        return feed(t).house();
    }

    int rule(String t) {
        return feed(t).rule();
    }

    int day(String t) {
        return feed(t).day();
    }

    int cross(String t, int person, int other, int bank) {
        return feed(t).cross(person, other, bank);
    }

    int look(String t, int person, int other, int bank) {
        return feed(t).look(person, other, bank);
    }

    int chance(String t, int person, int bank) {
        return feed(t).chance(person, bank);
    }

    /** A new object, with a river and a house. */
    void fresh(String river, String house) {
        x = new WordsUnsaid();
        due("river() of \"" + river + "\" is read", river(river) >= 0, true);
        due("house() of \"" + house + "\" is read", house(house) >= 0, true);
    }

    /** All that the face tells of how things stand, but for the ROW and THE TEXT. */
    String state() {
        return standing() + "; " + x.count(9);
    }

    /** The same without what can be undone. */
    String standing() {
        StringBuilder s = new StringBuilder();
        for (int what = 0; what < 9; what++) {
            s.append(x.count(what)).append(' ');
        }
        for (int p = 0; p < x.count(0); p++) {
            for (int what = 0; what < 6; what++) {
                s.append(x.person(p, what)).append(' ');
            }
        }
        for (int t = 0; t < x.count(1); t++) {
            for (int what = 0; what < 7; what++) {
                s.append(x.thing(t, what)).append(' ');
            }
        }
        for (int k = 0; k < x.count(2); k++) {
            s.append(x.islet(k)).append(' ');
        }
        return s.toString();
    }

    String rowTold() {
        StringBuilder s = new StringBuilder();
        for (int k = 0; k < x.count(10); k++) {
            s.append(x.row(k)).append(' ');
        }
        return s.toString();
    }

    /** A call that is refused, or that has no answer: nothing changes, the ROW neither. */
    void refused(String what, int want, Told call) {
        String before = state() + "; " + rowTold();
        due(what, call.ask(), want);
        due(what + " changes nothing", before.equals(state() + "; " + rowTold()), true);
    }

    /** A question that is answered: nothing changes but the ROW. */
    void asked(String what, int want, Told call, int... row) {
        String before = state();
        due(what, call.ask(), want);
        due(what + " changes nothing", before.equals(state()), true);
        dueRow(what, row);
    }

    void finish(String name) {
        System.out.println(name + ": " + done + " checks, " + wrong + " wrong");
        if (wrong > 0) {
            System.exit(1);
        }
    }
}
