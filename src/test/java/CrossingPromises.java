/** Promises 12 to 18: crossings, what is said, passed on and sold, days, and what is undone. */
public final class CrossingPromises extends Checks {
    private static final String RIVER = "20,5,12";
    /** a has q (8 WORDS, PRESS 2) and r (15, 1, ABOUT b); b has s (30, 3); c, on the far bank, has t (25, 0, ABOUT a). */
    private static final String HOUSE = "p10;p6;p20@1;ta8*2;ta15*1>b;tb30*3;tc25*0>a";

    public static void main(String[] args) {
        CrossingPromises t = new CrossingPromises();
        t.crossAlone();
        t.crossByTwo();
        t.crossFaults();
        t.crossFromIslets();
        t.burstOnTheSpot();
        t.pressureByRules();
        t.look();
        t.say();
        t.whisper();
        t.sell();
        t.sellForManyCoins();
        t.day();
        t.dayFaults();
        t.dayOf60();
        t.undo();
        t.undoOfTwelve();
        t.finish("CrossingPromises");
    }

    private void start() {
        fresh(RIVER, HOUSE);
    }

    private void crossAlone() {
        start();
        due("b bursts out with 3 + 8 / 2 > 6", cross("s", 1, NONE, 1), 8);
        dueRow("b is put ashore on islet 0", 2, 2, 8);
        due("the text is gone", x.count(11), 0);
        due("b is on islet 0", x.person(1, 1), 2);
        due("s is SAID", x.thing(2, 5), 1);
        due("s is KNOWN to b alone", x.thing(2, 6), 2);
        due("8 WORDS are used up", x.thing(2, 1), 22);
        due("who is on islets", x.count(6), 2);
        due("a comes over", cross("qr", 0, NONE, 1), 20);
        dueRow("a is on the far bank", 1, NONE, 20);
        due("q is used up", x.thing(0, 1), 0);
        due("3 of r are left", x.thing(1, 1), 3);
        due("nothing of a is SAID", x.thing(0, 5) + x.thing(1, 5), 0);
        due("c comes over", cross("t", 2, NONE, 0), 20);
        due("c is on the near bank", x.person(2, 1), 0);
        due("WORDS are words still", x.thing(3, 0), 25);
        start();
        due("r first", cross("rq", 0, NONE, 1), 20);
        due("r is used up", x.thing(1, 1), 0);
        due("3 of q are left", x.thing(0, 1), 3);
        start();
        rule("0");
        due("more than enough", cross("s", 1, NONE, 1), 20);
        due("10 of s are left", x.thing(2, 1), 10);
    }

    private void crossByTwo() {
        start();
        due("two pool", cross("rs", 0, 1, 1), 20);
        dueRow("two pool", 1, NONE, 20);
        due("15 of r", x.thing(1, 1), 0);
        due("5 of s", x.thing(2, 1), 25);
        due("both came", x.count(5), 7);
        start();
        due("the other one's alone", cross("s", 0, 1, 1), 8);
        dueRow("all aboard are put ashore", 2, 2, 8);
        due("a is put ashore", x.person(0, 1), 2);
        due("b is put ashore", x.person(1, 1), 2);
        due("all aboard KNOW it", x.thing(2, 6), 3);
        fresh("20", "p9;p9;p9;ta40*9");
        due("two are with c", cross("q", 1, 0, 1), 2);
        dueRow("they are where they began", 0, 0, 2);
        due("c does not KNOW it", x.thing(0, 6), 3);
        due("they are where they began", x.count(4), 7);
    }

    private void crossFaults() {
        start();
        refused("at that bank", -100, () -> cross("q", 0, NONE, 0));
        refused("like ones", -100, () -> cross("q", 0, 0, 1));
        refused("not at one place", -100, () -> cross("q", 0, 2, 1));
        refused("no bank", -100, () -> cross("q", 0, NONE, 2));
        refused("no bank", -100, () -> cross("q", 0, NONE, -1));
        refused("no person", -100, () -> cross("q", 3, NONE, 1));
        refused("no person", -100, () -> cross("q", -1, NONE, 1));
        refused("no other one", -100, () -> cross("q", 0, 3, 1));
        refused("no other one", -100, () -> cross("q", 0, -2, 1));
        feed("q");
        x.cross(0, NONE, 0);
        due("the text is gone with -100", x.count(11), 0);
        refused("-100 ahead of the text", -100, () -> cross("", 0, NONE, 0));
        String[] texts = {"", "s", "t", "u", "z", "p", "{", "qq", "qa", "qrq", "qrs", "rqx", "Q", "q;"};
        int[] at = {0, 0, 0, 0, 0, 0, 0, 1, 1, 2, 2, 2, 0, 1};
        for (int k = 0; k < texts.length; k++) {
            String text = texts[k];
            refused("cross \"" + text + "\"", -1 - at[k], () -> cross(text, 0, NONE, 1));
            due("the text is gone", x.count(11), 0);
        }
        refused("too few WORDS", -200, () -> cross("r", 0, NONE, 1));
        refused("a wrong sign ahead of too few", -3, () -> cross("rqx", 0, NONE, 1));
        x.say(0, 0);
        refused("SAID", -1, () -> cross("qr", 0, NONE, 1));
        refused("too few without it", -200, () -> cross("r", 0, NONE, 1));
        fresh("3", "p99;p99;ta1*0;ta1*0;ta1*0;ta1*0;tb1*0;tb1*0;tb1*0;tb1*0");
        refused("a seventh sign", -7, () -> cross("qrstuvw", 0, 1, 1));
        refused("a seventh sign that is wrong", -7, () -> cross("qrstuva", 0, 1, 1));
        refused("the sixth is wrong", -6, () -> cross("qrstuuv", 0, 1, 1));
        due("six", cross("xwqvur", 0, 1, 1), 3);
        dueRow("six", 1, NONE, 3);
        due("the first three are used up", x.count(8), 5);
        refused("one without WORDS LEFT", -1, () -> cross("xrs", 0, 1, 0));
        due("three are back", cross("rst", 0, 1, 0), 3);
        refused("too few by one", -200, () -> cross("uv", 1, 0, 1));
    }

    private void crossFromIslets() {
        fresh(RIVER, HOUSE);
        rule("p+9*(y=13)");
        due("a bursts out at 13 yards", cross("qr", 0, NONE, 1), 20);
        x.undo();
        x.hold(0, 9);
        due("a bursts out at 13 yards", cross("qr", 0, NONE, 1), 13);
        dueRow("a is on islet 1", 3, 1, 13);
        due("a is at 12", x.far(0, 1), 8);
        due("a has 12 back", x.far(0, 0), 12);
        rule("9*(y=0)+1");
        house("ta20*0");
        due("where it began does not count", cross("u", 0, NONE, 1), 0);
        dueRow("it stays on islet 1", 3, 4, 0);
        start();
        rule("p+99*(y=12)");
        due("at the islet just then", cross("qr", 0, NONE, 1), 12);
        dueRow("it is put ashore there", 3, 1, 12);
        start();
        rule("p+99*(y=11)");
        due("a yard ahead of the islet", cross("qr", 0, NONE, 1), 11);
        dueRow("the islet ahead of it", 2, 1, 11);
        start();
        rule("p+99*(y=8)");
        due("on the way back", cross("t", 2, NONE, 0), 8);
        dueRow("islet 1 is 8 yards from the far bank", 3, 3, 8);
        start();
        rule("p+99*(y=7)");
        due("on the way back", cross("t", 2, NONE, 0), 7);
        dueRow("ahead of all islets", 1, 3, 7);
        start();
        rule("p+99*(y=19)");
        due("on the way back", cross("t", 2, NONE, 0), 19);
        dueRow("islet 0 is the last one", 2, 3, 19);
        fresh("20,5,12", "p9;ta10*0;ta30*0;ta30*0");
        rule("99*(y=12)*(w=28)");
        due("ashore on islet 1", cross("qr", 0, NONE, 1), 12);
        rule("99*(y=7)");
        due("from an islet to the near bank", cross("s", 0, NONE, 0), 7);
        dueRow("at islet 0 just then", 2, 2, 7);
        fresh("20,5,12", "p9;ta10*0;ta30*0;ta30*0");
        rule("99*(y=12)*(w=28)");
        cross("qr", 0, NONE, 1);
        rule("99*(y=6)");
        due("from an islet to the near bank", cross("s", 0, NONE, 0), 6);
        dueRow("islet 1 is where it began", 3, 2, 6);
    }

    private void burstOnTheSpot() {
        fresh("20,5", "p9;ta40*0");
        rule("10");
        due("at the first yard", cross("q", 0, NONE, 1), 0);
        dueRow("where it began", 0, 0, 0);
        due("no WORD is used up", x.thing(0, 1), 40);
        due("it is SAID", x.count(7), 1);
        due("it can be undone", x.undo(), 0);
        rule("9");
        due("not more than HOLD", cross("q", 0, NONE, 1), 20);
    }

    /** Each rule has just one yard at which it is more than HOLD: so what its letter tells is known. */
    private void pressureByRules() {
        String[] rules = {"99*(t=4)", "99*(w=4)", "99*(y=14)", "99*(n=2)", "99*(n=1)", "99*(i=1)*(t=3)", "99*(i=0)", "99*o*(t=2)",
            "99*(p=5)", "99*(p=4)", "p*t", "-t", "99*(y-t=8)", "99*(t=15)", "99*(w=0)"};
        int[] crossed = {4, 4, 14, 0, 20, 11, 0, 10, 8, 0, 5, 20, 8, 20, 20};
        int[] said = {0, 0, 1, 0, NONE, 1, 0, 1, 1, 0, 0, NONE, 1, NONE, NONE};
        for (int k = 0; k < rules.length; k++) {
            fresh("20", "p16;p16;ta8*4;tb30*5>a");
            rule(rules[k]);
            due("by \"" + rules[k] + "\"", look("qr", 0, 1, 1), crossed[k]);
            dueRow("by \"" + rules[k] + "\"", said[k] == NONE ? 1 : 0, said[k], crossed[k]);
        }
        fresh("20", "p16;p16;ta30*4>b;tb8*5>a");
        rule("99*(o=1)");
        due("nobody it is ABOUT is aboard", look("q", 0, NONE, 1), 20);
        due("b is aboard", look("q", 0, 1, 1), 0);
    }

    private void look() {
        start();
        String before = state();
        due("look", look("s", 1, NONE, 1), 8);
        dueRow("look", 2, 2, 8);
        due("look: the text is gone", x.count(11), 0);
        due("look by two", look("sr", 0, 1, 1), 8);
        dueRow("look by two", 2, 2, 8);
        due("look", look("qr", 0, NONE, 1), 20);
        dueRow("look", 1, NONE, 20);
        due("look changes nothing", before.equals(state()), true);
        refused("look: -100", -100, () -> look("q", 0, NONE, 0));
        refused("look: a wrong sign", -2, () -> look("qs", 0, NONE, 1));
        refused("look: a wrong end", -1, () -> look("", 0, NONE, 1));
        refused("look: too few", -200, () -> look("q", 0, NONE, 1));
        feed("q");
        x.look(0, NONE, 0);
        due("look: the text is gone with -100", x.count(11), 0);
    }

    private void say() {
        start();
        refused("ABOUT one who is there", -2, () -> x.say(0, 1));
        due("say", x.say(0, 0), 1);
        due("SAID", x.thing(0, 5), 1);
        due("all there KNOW it, others don't", x.thing(0, 6), 3);
        due("WORDS stay", x.thing(0, 1), 8);
        refused("SAID before", -3, () -> x.say(0, 0));
        refused("not its own", NONE, () -> x.say(0, 2));
        refused("not its own though SAID", NONE, () -> x.say(1, 0));
        refused("nobody", NONE, () -> x.say(3, 0));
        refused("nobody", NONE, () -> x.say(-1, 0));
        refused("no thing", NONE, () -> x.say(0, 4));
        refused("no thing", NONE, () -> x.say(0, -1));
        due("nobody hears", x.say(2, 3), 0);
        start();
        x.whisper(0, 1, 0);
        due("who knew it is not counted", x.say(0, 0), 0);
        fresh("9", "p9;p9;p9;p9@1;ta9*0>d;ta9*0>b");
        due("three of four are there", x.say(0, 0), 2);
        due("they KNOW it", x.thing(0, 6), 7);
        due("say can be undone", x.undo(), 0);
        due("it is not SAID then", x.thing(0, 5), 0);
        due("say to all again", x.say(0, 0), 2);
        x = new WordsUnsaid();
        house("p9;p9;ta9*0>b;ta9*0");
        rule("9*(t=5)+t");
        cross("r", 0, 1, 1);
        house("p9@1");
        refused("SAID is asked first", NONE, () -> x.say(0, 5));
        fresh("9", "p9;p9@1;ta9*0>b;ta9*0");
        x.say(0, 0);
        rule("0");
        cross("r", 0, NONE, 1);
        refused("SAID is asked first", -3, () -> x.say(0, 0));
    }

    private void whisper() {
        start();
        due("a has it", x.whisper(0, 1, 1), 1);
        due("b KNOWS it", x.thing(1, 6), 3);
        due("b KNOWS it already", x.whisper(0, 1, 1), 0);
        refused("b KNOWS it, but it was not SAID", NONE, () -> x.whisper(1, 0, 1));
        refused("b does not KNOW it", NONE, () -> x.whisper(1, 0, 0));
        refused("like ones", NONE, () -> x.whisper(0, 0, 0));
        refused("not at one place", -2, () -> x.whisper(0, 2, 0));
        refused("nobody", NONE, () -> x.whisper(0, 3, 0));
        refused("nobody", NONE, () -> x.whisper(3, 0, 0));
        refused("nobody", NONE, () -> x.whisper(0, -1, 0));
        refused("no thing", NONE, () -> x.whisper(0, 1, 4));
        refused("no thing", NONE, () -> x.whisper(0, 1, -1));
        refused("not KNOWN is asked ahead of the place", NONE, () -> x.whisper(1, 2, 0));
        x.say(0, 0);
        house("p9");
        refused("d does not KNOW what was SAID", NONE, () -> x.whisper(3, 0, 0));
        due("b KNOWS what was SAID", x.whisper(1, 3, 0), 1);
        due("d KNOWS it", x.thing(0, 6), 11);
        due("d passes it on", x.whisper(3, 0, 0), 0);
        due("both can be undone", x.undo(), 1);
        due("both can be undone", x.undo(), 0);
        due("d does not KNOW it then", x.thing(0, 6), 3);
        due("it is not SAID by whispers", x.thing(1, 5), 0);
    }

    private void sell() {
        start();
        refused("the one that it is ABOUT", -3, () -> x.sell(0, 1, 1));
        refused("6 coins for 30 WORDS", -3, () -> x.sell(1, 0, 2));
        refused("not at one place", -2, () -> x.sell(0, 2, 0));
        refused("not at one place, ABOUT it", -2, () -> x.sell(2, 0, 3));
        refused("not its own", NONE, () -> x.sell(0, 1, 2));
        refused("like ones", NONE, () -> x.sell(0, 0, 0));
        refused("nobody", NONE, () -> x.sell(0, 3, 0));
        refused("nobody", NONE, () -> x.sell(3, 0, 0));
        refused("nobody", NONE, () -> x.sell(0, -1, 0));
        refused("no thing", NONE, () -> x.sell(0, 1, 4));
        refused("no thing", NONE, () -> x.sell(0, 1, -1));
        due("2 coins for 8 WORDS", x.sell(0, 1, 0), 2);
        due("coins of a", x.person(0, 5), 7);
        due("coins of b", x.person(1, 5), 3);
        due("it is b's", x.thing(0, 3), 1);
        due("a KNOWS it still", x.thing(0, 6), 3);
        refused("it is not a's", NONE, () -> x.sell(0, 1, 0));
        due("b sells it back", x.sell(1, 0, 0), 2);
        due("coins of a", x.person(0, 5), 5);
        x.say(0, 0);
        refused("SAID", NONE, () -> x.sell(0, 1, 0));
        int[] words = {1, 4, 5, 6, 9, 10, 11, 15, 16, 20, 21, 25};
        int[] price = {1, 1, 1, 2, 2, 2, 3, 3, 4, 4, 5, 5};
        for (int k = 0; k < words.length; k++) {
            fresh("9", "p9;p9;ta" + words[k] + "*0");
            due("the price of " + words[k], x.sell(0, 1, 0), price[k]);
        }
        fresh("9", "p9;p9;ta9*0;ta9*0");
        rule("0");
        cross("q", 0, 1, 1);
        refused("no WORDS LEFT", NONE, () -> x.sell(0, 1, 0));
        due("2 for the other", x.sell(0, 1, 1), 2);
        fresh("8", "p9;p9;ta9*0;ta20*0");
        rule("0");
        cross("q", 0, 1, 1);
        due("1 for the one WORD that is LEFT", x.sell(0, 1, 0), 1);
        due("4 are just enough", x.sell(0, 1, 1), 4);
        due("b has none", x.person(1, 5), 0);
        due("sales are undone", x.undo(), 2);
        due("coins are back", x.person(1, 5), 4);
        due("it is a's again", x.thing(1, 3), 0);
        due("b does not KNOW it", x.thing(1, 6), 1);
    }

    private void sellForManyCoins() {
        fresh("9", "p9;p9;p9;p9;p9;p9;ta25*0;ta25*0;ta25*0;ta25*0;ta25*0;ta5*0");
        for (int k = 0; k < 5; k++) {
            due("a sells to all", x.sell(0, k + 1, k), 5);
        }
        due("a has them all", x.person(0, 5), 30);
        refused("nobody has a coin", -3, () -> x.sell(0, 1, 5));
        due("b sells a thing back", x.sell(1, 0, 0), 5);
        due("b buys again", x.sell(0, 1, 5), 1);
    }

    private void day() {
        start();
        due("an empty day", day(""), 0);
        dueRow("an empty day", 0, 0);
        due("an empty day is not kept", x.count(9), 0);
        due("say, burst out, stop", day("saq;cb1:s;ca1:r"), 2);
        dueRow("say, burst out, stop", 1, 1);
        due("the text is gone", x.count(11), 0);
        due("both are SAID", x.count(7), 5);
        due("b is on islet 0", x.person(1, 1), 2);
        due("a day is undone as one", x.undo(), 0);
        due("nothing is SAID", x.count(7), 0);
        due("b is back", x.count(4), 3);
        due("two cross", day("ca+b1:qr"), 1);
        dueRow("two cross", 0, 0);
        due("all are over", x.count(5), 7);
        x.undo();
        due("sell and whisper", day("vabq;wbaq;wabr"), 3);
        dueRow("sell and whisper", 0, 0);
        due("it is b's", x.thing(0, 3), 1);
        due("b KNOWS r", x.thing(1, 6), 3);
        x.undo();
        due("one that is not there", day("saz"), 0);
        dueRow("one that is not there", 1, 0);
        due("a day of no ACT is not kept", x.undo(), NONE);
        due("people that are not there", day("sfq;saq"), 0);
        dueRow("people that are not there", 1, 0);
        due("nothing is done behind it", x.count(7), 0);
        due("like ones can't be", day("waaq"), 0);
        due("like ones can't be", day("vaaq"), 0);
        due("too few WORDS can't be", day("ca1:q"), 0);
        dueRow("too few WORDS", 1, 0);
        due("told twice can't be", day("ca1:qq"), 0);
        due("one at that bank can't be", day("ca0:qr"), 0);
        due("not at one place can't be", day("ca+c1:qr"), 0);
        due("not aboard can't be", day("ca1:qrs"), 0);
        due("six things of two", day("ca1:qrtuvw"), 0);
        due("over and back, and over", day("ca1:qr;cc0:t;cb1:s"), 3);
        dueRow("over and back, and over", 0, 1);
        due("c is on the near bank", x.count(4), 4);
        x.undo();
        due("two burst out", day("cb1:s;sbs"), 1);
        dueRow("two burst out", 1, 1);
        fresh(RIVER, HOUSE);
        rule("99*(y=6)");
        due("both burst out", day("cb1:s;ca1:rq;cb0:s"), 2);
        dueRow("both burst out", 1, 2);
        due("both are on islet 0", x.count(6), 3);
        due("a and b whisper there", day("wabr;wbas"), 2);
        dueRow("a and b whisper there", 0, 0);
    }

    private void dayFaults() {
        start();
        x.look(0, NONE, 1);
        String[] texts = {"x", "c", "s", "v", "w", "ca", "ca+", "ca+a", "ca+a1:q", "ca+g", "ca+b", "ca+b2", "cg", "ca2", "ca:", "ca1",
            "ca1q", "ca1:", "ca1:a", "ca1:p", "ca1:q;", "ca1:qp", "ca1:qrstuvw", "ca1:qrstuv;", "sa", "saa", "sg", "saqr", "sap",
            "va", "vab", "vag", "vabp", "vaq", "vabqr", "wa", "wab", "wabb", "saq;", "saq;;", "saq;x", "saq;sbq;ca", "saq,sbq",
            ";", "S", "ca+b+c1:q", "ca11:q", "ca01:q"};
        int[] at = {0, 1, 1, 1, 1, 2, 3, 3, 3, 3, 4, 4, 1, 2, 2, 3,
            3, 4, 4, 4, 6, 5, 10, 11, 2, 2, 1, 3, 2,
            2, 3, 2, 3, 2, 4, 2, 3, 3, 4, 4, 4, 10, 3,
            0, 0, 4, 3, 3};
        for (int k = 0; k < texts.length; k++) {
            String text = texts[k];
            refused("day \"" + text + "\"", -1 - at[k], () -> day(text));
            due("the text is gone", x.count(11), 0);
        }
    }

    private void dayOf60() {
        start();
        String acts = "wabq;wabq;wabq;wabq;wabq;wabq;wabq;wabq;wabq;wabq;wabq;";
        due("55 signs", acts.length(), 55);
        due("59 signs", day(acts + "wabq"), 12);
        dueRow("59 signs", 0, 0);
        due("60 signs that end too early", day(acts + "wabq;"), -61);
        due("60 signs", day(acts.substring(5) + "ca+b1:qrs"), 11);
        due("it is undone", x.undo(), 1);
        due("60 signs", day(acts + "ca1:q"), 11);
        dueRow("60 signs", 1, 0);
        due("61 signs", day(acts + "ca1:qr"), -61);
        due("61 signs, the 61st is wrong anyway", day(acts + "ca1:q!"), -61);
        due("61 signs, the 60th is wrong", day(acts + "ca1:!q"), -60);
        due("61 signs, too early at the 60th", day(acts + "wabq;w"), -61);
        due("an early fault of 61", day("x" + acts + "ca1:q"), -1);
        due("as many ACTS as can be", day("saq;saq;saq;saq;saq;saq;saq;saq;saq;saq;saq;saq;saq;saq;saq"), 1);
        dueRow("the second can't be", 1, 0);
    }

    private void undo() {
        start();
        refused("undo of nothing", NONE, () -> x.undo());
        String first = state();
        cross("qr", 0, NONE, 1);
        refused("what is refused is not kept", NONE, () -> x.say(0, 2));
        due("one", x.count(9), 1);
        x.hold(0, 33);
        due("undo", x.undo(), 0);
        due("HOLD stays", x.person(0, 0), 33);
        x.hold(0, 10);
        due("all else is as it was", first.equals(state()), true);
        x.say(0, 0);
        x.whisper(0, 1, 1);
        x.sell(0, 1, 1);
        x.whisper(1, 0, 0);
        due("three that were done", x.count(9), 3);
        due("undo", x.undo(), 2);
        due("undo", x.undo(), 1);
        due("undo", x.undo(), 0);
        due("undo of nothing", x.undo(), NONE);
        due("all is as it was", first.equals(state()), true);
        x.say(0, 0);
        rule("5");
        x.sheet(2, 1, 7, 0);
        due("rules and sheets forget nothing", x.undo(), 0);
        due("PRESS stays", x.thing(0, 2), 7);
        x.say(0, 0);
        x.keep(0);
        due("keep() forgets nothing", x.count(9), 1);
        x.again(1);
        due("again() that is refused forgets nothing", x.count(9), 1);
        x.again(0);
        due("again() forgets", x.count(9), 0);
        look("qr", 0, NONE, 1);
        String row = rowTold();
        x.undo();
        due("undo tells no row", row.equals(rowTold()), true);
    }

    private void undoOfTwelve() {
        fresh("9", "p9;p9;ta9*0;tb9*0;ta9*0");
        for (int k = 1; k <= 15; k++) {
            String before = state();
            if (k == 3) {
                x.say(0, 0);
            } else if (k == 4) {
                x.say(1, 1);
            } else {
                due("a whisper", x.whisper(0, 1, 2) >= 0, true);
            }
            due("12 are kept", x.count(9), Math.min(k, 12));
            due("it changed", k > 1 && k != 3 && k != 4 || !before.equals(state()), true);
        }
        for (int k = 11; k >= 0; k--) {
            due("undo", x.undo(), k);
            due("the latest first", x.count(7), k == 0 ? 1 : 3);
        }
        due("the oldest three are done for good", x.undo(), NONE);
        due("the third is done for good", x.thing(0, 5), 1);
    }
}
