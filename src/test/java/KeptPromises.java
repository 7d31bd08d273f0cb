/** Promises 36 to 39: what is kept, counts, the ROW. */
public final class KeptPromises extends Checks {
    public static void main(String[] args) {
        KeptPromises t = new KeptPromises();
        t.keep();
        t.again();
        t.againRefused();
        t.count();
        t.row();
        t.rowStays();
        t.textIsEmptied();
        t.anyArguments();
        t.finish("KeptPromises");
    }

    private void start() {
        fresh("20,5,12", "p10;p6;p20@1;ta8*2;ta15*1>b;tb30*3;tc25*0>a");
    }

    private void keep() {
        start();
        due("keep(0)", x.keep(0), true);
        due("keep(1)", x.keep(1), true);
        due("keep(2)", x.keep(2), false);
        due("keep(-1)", x.keep(-1), false);
        due("keep(MAX)", x.keep(Integer.MAX_VALUE), false);
        String before = state();
        due("keep(0) once more", x.keep(0), true);
        due("keep changes nothing", before.equals(state()), true);
        due("keep tells no row", x.count(10), 0);
        x = new WordsUnsaid();
        due("nobody is kept", x.keep(1), true);
        due("nobody is brought back", x.again(1), true);
        due("nothing is kept under 0", x.again(0), false);
    }

    private void again() {
        start();
        String first = state();
        x.keep(0);
        x.say(0, 0);
        x.whisper(0, 1, 1);
        x.sell(0, 1, 1);
        cross("s", 1, NONE, 1);
        String second = standing();
        x.keep(1);
        cross("t", 2, NONE, 0);
        due("all five that may change have changed", x.count(9), 4);
        due("again(0)", x.again(0), true);
        due("all is as it was under 0", first.equals(state()), true);
        due("again(1)", x.again(1), true);
        due("nothing can be undone", x.count(9), 0);
        x.again(0);
        due("again(0) once more", first.equals(state()), true);
        x.again(1);
        due("all is as it was under 1", second.equals(standing()), true);
        due("b is on islet 0", x.person(1, 1), 2);
        due("q is SAID", x.thing(0, 5), 1);
        due("s is SAID", x.thing(2, 5), 1);
        due("22 of s are left", x.thing(2, 1), 22);
        due("r is a's", x.thing(1, 3), 0);
        due("b KNOWS r", x.thing(1, 6), 3);
        x.again(0);
        x.sell(0, 1, 0);
        x.keep(0);
        x.undo();
        due("q is a's", x.thing(0, 3), 0);
        x.again(0);
        due("q is b's", x.thing(0, 3), 1);
        due("coins of a", x.person(0, 5), 7);
        due("coins of b", x.person(1, 5), 3);
        x.hold(0, 50);
        x.sheet(2, 4, 7, 0);
        rule("1");
        x.again(0);
        due("HOLD stays", x.person(0, 0), 50);
        due("PRESS stays", x.thing(3, 2), 7);
        x.keeps(1, 2);
        due("the rule stays", x.row(0), 0);
        x.say(0, 0);
        x.again(0);
        due("again forgets what can be undone", x.undo(), NONE);
    }

    private void againRefused() {
        start();
        due("nothing kept", x.again(0), false);
        x.keep(1);
        x.say(0, 0);
        due("nothing kept under 0", x.again(0), false);
        due("again(2)", x.again(2), false);
        due("again(-1)", x.again(-1), false);
        due("again(33)", x.again(33), false);
        due("refused changes nothing", x.count(7), 1);
        due("refused forgets nothing", x.count(9), 1);
        due("again(1)", x.again(1), true);
        due("nothing is SAID", x.count(7), 0);
        house("p9");
        due("PEOPLE came", x.again(1), false);
        x.keep(1);
        house("td9*0");
        due("THINGS came", x.again(1), false);
        x.keep(1);
        house("td9*0;x");
        due("none came", x.again(1), true);
        river("20,5,12");
        due("THE RIVER was told", x.again(1), false);
        x.keep(0);
        due("kept since", x.again(0), true);
        due("not kept since", x.again(1), false);
    }

    private void count() {
        start();
        int[] counts = {3, 4, 2, 20, 3, 4, 0, 0, 78, 0, 0, 0};
        for (int k = 0; k < counts.length; k++) {
            due("count(" + k + ")", x.count(k), counts[k]);
        }
        due("count(12)", x.count(12), NONE);
        due("count(-1)", x.count(-1), NONE);
        cross("s", 1, NONE, 1);
        x.sign(0);
        x.end(3);
        int[] then = {3, 4, 2, 20, 1, 4, 2, 4, 70, 1, 3, 3};
        for (int k = 0; k < then.length; k++) {
            due("count(" + k + ") then", x.count(k), then[k]);
        }
        x.end(0);
        cross("qr", 0, NONE, 1);
        due("who is on the far bank", x.count(5), 5);
        due("WORDS LEFT in all, SAID or not", x.count(8), 50);
        due("what can be undone", x.count(9), 2);
    }

    private void row() {
        start();
        dueThrow("row(0) of none", () -> x.row(0));
        cross("qr", 0, NONE, 1);
        due("row(0)", x.row(0), 1);
        due("row(1)", x.row(1), NONE);
        due("row(2)", x.row(2), 20);
        dueThrow("row(3)", () -> x.row(3));
        dueThrow("row(-1)", () -> x.row(-1));
        dueThrow("row(MIN)", () -> x.row(Integer.MIN_VALUE));
        x.keeps(1, 2);
        due("one number", x.row(0), 7);
        dueThrow("row(1) of one", () -> x.row(1));
        x.ashore(1, 1);
        dueThrow("row(0) of an empty one", () -> x.row(0));
    }

    /** The ROW stays with NONE and with what tells why there is no answer, and with calls that tell none. */
    private void rowStays() {
        start();
        x.keeps(1, 2);
        Told[] calls = {() -> x.sign(1), () -> x.end(0) ? 1 : 0, () -> house(""), () -> house("x"), () -> rule(""),
            () -> rule("p+t/2"), () -> river("x"), () -> x.person(0, 0), () -> x.thing(0, 0), () -> x.islet(0),
            () -> x.hold(0, 10), () -> x.sheet(2, 4, 0, 1), () -> x.sheet(3, 0, 0, 0), () -> x.say(0, 0), () -> x.say(0, 0),
            () -> x.whisper(0, 1, 0), () -> x.sell(0, 1, 1), () -> x.undo(), () -> x.far(0, 1), () -> x.fewest(1, 1),
            () -> x.back(0, 1), () -> x.back(0, 0), () -> x.party(2), () -> x.party(0), () -> x.pool(2, 0), () -> x.known(9),
            () -> x.sayable(7), () -> x.ashore(0, 5), () -> x.about(0, 5), () -> x.bargain(0, 2), () -> x.bargain(1, 0),
            () -> x.years(1, 0), () -> x.keep(0) ? 1 : 0, () -> x.again(0) ? 1 : 0, () -> x.count(0), () -> cross("q", 0, NONE, 0),
            () -> look("", 0, NONE, 1), () -> chance("r", 0, 1), () -> day("x"), () -> x.exact(0, 0), () -> x.rows(0, 0),
            () -> x.keeps(0, 2), () -> house("p1"), () -> river("30")};
        for (int k = 0; k < calls.length; k++) {
            calls[k].ask();
            due("behind call " + k + ": numbers of the ROW", x.count(10), 1);
            due("behind call " + k + ": row(0)", x.count(10) == 1 ? x.row(0) : -99, 7);
        }
    }

    private void textIsEmptied() {
        start();
        Told[] readers = {() -> x.river(), () -> x.house(), () -> x.rule(), () -> x.cross(0, NONE, 1), () -> x.cross(9, 9, 9),
            () -> x.look(0, NONE, 1), () -> x.look(9, 9, 9), () -> x.day(), () -> x.chance(0, 1), () -> x.chance(9, 9)};
        for (int k = 0; k < readers.length; k++) {
            feed("zz");
            readers[k].ask();
            due("behind reader " + k, x.count(11), 0);
        }
        Told[] others = {() -> x.person(0, 0), () -> x.say(0, 0), () -> x.undo(), () -> x.fewest(0, 1), () -> x.sheet(2, 1, 1, 1),
            () -> x.years(1, 1), () -> x.keep(0) ? 1 : 0, () -> x.again(0) ? 1 : 0, () -> x.back(0, 1), () -> x.party(1)};
        for (int k = 0; k < others.length; k++) {
            feed("zz");
            others[k].ask();
            due("behind another " + k, x.count(11), 2);
        }
    }

    private void anyArguments() {
        int[] any = {Integer.MIN_VALUE, -33, -2, -1, 0, 1, 2, 5, 6, 9, 10, 31, 32, 33, 63, 64, 1024, Integer.MAX_VALUE};
        start();
        for (int a : any) {
            for (int b : any) {
                x.hold(a, 0);
                x.say(a, b + 4);
                x.keeps(a, b);
                x.far(a, b);
                x.fewest(a, b);
                x.rows(a, b);
                x.back(a, b);
                x.exact(a, b);
                x.chance(a, b);
                x.party(a);
                x.pool(a, b);
                x.known(a);
                x.sayable(a);
                x.ashore(a, b);
                x.about(a, b);
                x.bargain(a, b);
                x.years(a, b);
                x.islet(a);
                x.count(a);
                for (int c : any) {
                    x.cross(a, b, c);
                    x.look(a, b, c);
                    x.whisper(a, b, c);
                }
            }
        }
        due("any arguments are borne", x.count(0), 3);
    }
}
