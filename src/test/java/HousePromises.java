/** Promises 1 to 11: a new object, the river, the house. */
public final class HousePromises extends Checks {
    public static void main(String[] args) {
        HousePromises t = new HousePromises();
        t.newObject();
        t.sign();
        t.end();
        t.river();
        t.riverFaults();
        t.house();
        t.houseFaults();
        t.houseOf76();
        t.rule();
        t.ruleFaults();
        t.personAndThing();
        t.islet();
        t.hold();
        t.sheet();
        t.finish("HousePromises");
    }

    private void newObject() {
        x = new WordsUnsaid();
        int[] counts = {0, 0, 0, 20, 0, 0, 0, 0, 0, 0, 0, 0};
        for (int k = 0; k < counts.length; k++) {
            due("a new one: count(" + k + ")", x.count(k), counts[k]);
        }
        dueThrow("a new one: person(0, 0)", () -> x.person(0, 0));
        dueThrow("a new one: thing(0, 0)", () -> x.thing(0, 0));
        dueThrow("a new one: row(0)", () -> x.row(0));
        due("a new one: islet(0)", x.islet(0), NONE);
        due("a new one: undo()", x.undo(), NONE);
        due("a new one: again(0)", x.again(0), false);
        due("NONE", WordsUnsaid.NONE, -1);
    }

    private void sign() {
        x = new WordsUnsaid();
        for (int k = 4; k <= 80; k += 4) {
            due("sign: " + k, x.sign(0x31323334), k);
        }
        due("sign: an 81st", x.sign(0x31323334), NONE);
        due("sign: refused changes nothing", x.count(11), 80);
        due("sign: room for three", x.end(77), true);
        due("sign: an 81st sign", x.sign(0), NONE);
        due("sign: 77 stay", x.count(11), 77);
        due("sign: room for four", x.end(76), true);
        due("sign: 80 again", x.sign(0), 80);
        x.end(0);
        x.sign(('2' << 24) | ('0' << 16) | (',' << 8) | '5');
        due("sign: the highest byte is first", x.river(), 1);
        due("sign: the highest byte is first (yards)", x.count(3), 20);
        x.sign(0xff323000);
        x.end(3);
        due("sign: a byte of 255", x.river(), -1);
    }

    private void end() {
        x = new WordsUnsaid();
        due("end(0) of nothing", x.end(0), true);
        due("end(1) of nothing", x.end(1), false);
        x.sign(0x34300000);
        due("end(5) of four", x.end(5), false);
        due("end(-1)", x.end(-1), false);
        due("end(MIN)", x.end(Integer.MIN_VALUE), false);
        due("end: four still", x.count(11), 4);
        due("end(4)", x.end(4), true);
        due("end(2)", x.end(2), true);
        due("end: two then", x.count(11), 2);
        due("end(3) of two", x.end(3), false);
        due("end: the first ones stay", x.river(), 0);
        due("end: 40 yards", x.count(3), 40);
    }

    private void river() {
        x = new WordsUnsaid();
        due("river 2", river("2"), 0);
        due("river 2: yards", x.count(3), 2);
        due("river 60,59", river("60,59"), 1);
        due("river 60,59: islet", x.islet(0), 59);
        due("river 02,01", river("02,01"), 1);
        due("river 2,1: yards", x.count(3), 2);
        due("river with five", river("9,1,02,3,4,08"), 5);
        due("river with five: the last", x.islet(4), 8);
        due("river: the text is gone", x.count(11), 0);
        due("river: no row", x.count(10), 0);
        house("p9@1;ta3*0");
        due("river: people stay", river("7,2"), 1);
        due("river: who is on the far bank", x.count(5), 1);
        due("far over seven", x.far(0, 0), 7);
        say0();
        x.keep(0);
        due("river forgets what can be undone", river("8"), 0);
        due("river forgets what can be undone", x.undo(), NONE);
        due("river forgets what was kept", x.again(0), false);
        say0();
        x.keep(1);
        due("a wrong river", river("1"), -1);
        due("a wrong river forgets nothing", x.count(9), 1);
        due("a wrong river: kept stays", x.again(1), true);
        due("a wrong river: yards stay", x.count(3), 8);
    }

    private void say0() {
        house("p5;ta1*0");
        int last = x.count(1) - 1;
        due("say", x.say(x.thing(last, 3), last) >= 0, true);
        due("say can be undone", x.count(9), 1);
    }

    private void riverFaults() {
        x = new WordsUnsaid();
        river("30,4,9");
        String[] texts = {"", "x", "1", "1,", "0", "00", "61", "99", "200", "20;", "20,", "20,,", "20,0", "20,00", "20,20",
            "20,5,5", "20,5,4", "20,5,04", "20,19,20", "5,1,2,3,4,", "5,1,2,3,4,5", "9,1,2,3,4,5,6", "9,1,2,3,4,5,", "9,1x",
            "20,123", "2,1,", "2,1,1", " 9", "9 "};
        int[] at = {0, 0, 0, 0, 0, 1, 1, 1, 2, 2, 3, 3, 3, 4, 4, 5, 5, 6, 7, 10, 10, 11, 11, 3, 5, 4, 4, 0, 1};
        for (int k = 0; k < texts.length; k++) {
            String text = texts[k];
            refused("river \"" + text + "\"", -1 - at[k], () -> river(text));
            due("the text is gone", x.count(11), 0);
        }
        fresh("30,4,9", "p5;ta40*0;ta40*9");
        cross("rq", 0, NONE, 1);
        due("nobody bursts out ahead of a wrong press", x.person(0, 1), 0);
        fresh("30,4,9", "p5;ta12*0;ta30*9");
        cross("qr", 0, NONE, 1);
        due("a is put ashore on islet 1", x.person(0, 1), 3);
        refused("river with one on an islet", -100, () -> river("20"));
        refused("a wrong river with one on an islet", -100, () -> river(""));
        feed("20");
        x.river();
        due("the text is gone with -100", x.count(11), 0);
    }

    private void house() {
        x = new WordsUnsaid();
        due("an empty house", house(""), 0);
        due("house", house("p10;p6@1;ta8*2>b;tb40*9;p99@0;tc01*0>a"), 6);
        due("house: people", x.count(0), 3);
        due("house: things", x.count(1), 3);
        due("house: hold of b", x.person(1, 0), 6);
        due("house: b is at", x.person(1, 1), 1);
        due("house: c is at", x.person(2, 1), 0);
        due("house: coins of c", x.person(2, 5), 5);
        due("house: about of q", x.thing(0, 4), 1);
        due("house: about of r", x.thing(1, 4), NONE);
        due("house: press of r", x.thing(1, 2), 9);
        due("house: words of r", x.thing(1, 0), 40);
        due("house: left of s", x.thing(2, 1), 1);
        due("house: whose is s", x.thing(2, 3), 2);
        due("house: who knows s", x.thing(2, 6), 4);
        due("house: said", x.thing(2, 5), 0);
        due("house comes behind", house("p7;td5*1>a"), 2);
        due("house comes behind: d", x.person(3, 0), 7);
        due("house comes behind: t", x.thing(3, 3), 3);
        due("house comes behind: about", x.thing(3, 4), 0);
        x.keep(0);
        x.say(0, 0);
        due("an empty house again", house(""), 0);
        due("an empty house forgets nothing", x.count(9), 1);
        due("an empty house: kept stays", x.again(0), true);
        x.say(0, 0);
        refused("a wrong house", -4, () -> house("p7;"));
        due("a wrong house forgets nothing", x.count(9), 1);
        due("a wrong house: kept stays", x.again(0), true);
        x.say(0, 0);
        due("a house of people alone", house("p7"), 1);
        due("a house forgets what can be undone", x.undo(), NONE);
        due("a house forgets what was kept", x.again(0), false);
        x.keep(1);
        due("a house of things alone", house("ta7*1"), 1);
        due("a house of things forgets what was kept", x.again(1), false);
        due("six people, a sixth", house("p1"), 1);
        due("room for a thing", house("tf1*0>e"), 1);
        due("house: sixth's hold", x.person(5, 0), 1);
        refused("a seventh", -1, () -> house("p1"));
        refused("a seventh behind a thing", -7, () -> house("ta1*0;;"));
        refused("a seventh behind a thing", -7, () -> house("ta1*0>p"));
        refused("a seventh behind a thing", -6, () -> house("ta1*01"));
        refused("a seventh behind a thing", -7, () -> house("ta1*0;p"));
    }

    private void houseFaults() {
        fresh("20", "p10;p6");
        String[] texts = {"x", "p", "p;", "p0", "p00", "p0;p5", "p100", "p5@", "p5@2", "p5@;", "p5@11", "p5;", "p5;;", "p5 ",
            "t", "tc", "tc5", "tg", "t5", "ta", "ta*", "ta0", "ta00", "ta0*", "ta41", "ta99*", "ta5", "ta5;", "ta401", "ta5*",
            "ta5*x", "ta5*10", "ta5*1>", "ta5*1>a", "ta5*1>c", "ta5*1>;", "ta5*1>bb", "ta5*1;tc1*1;p5", "p5;tc5*1>d;p5",
            "P5", "Ta5*1", "tA5*1"};
        int[] at = {0, 1, 1, 1, 2, 1, 3, 3, 3, 3, 4, 3, 3, 2,
            1, 1, 1, 1, 1, 2, 2, 2, 3, 2, 3, 3, 3, 3, 4, 4,
            4, 5, 6, 6, 6, 6, 7, 7, 9,
            0, 0, 1};
        for (int k = 0; k < texts.length; k++) {
            String text = texts[k];
            refused("house \"" + text + "\"", -1 - at[k], () -> house(text));
            due("the text is gone", x.count(11), 0);
        }
        refused("one digit for the bank", -5, () -> house("p5@01"));
        due("one who is there by this text", house("p5;tc5*1>b;ta1*1>c"), 3);
        fresh("20", "p5;ta1*1;ta1*1;ta1*1;ta1*1;ta1*1;ta1*1;ta1*1;ta1*1;ta1*1");
        due("nine things", x.count(1), 9);
        refused("an eleventh", -7, () -> house("ta1*1;ta1*1;p5"));
        due("a tenth", house("ta2*3"), 1);
        refused("an eleventh", -1, () -> house("ta1*1"));
        due("people still come", house("p5"), 1);
    }

    private void houseOf76() {
        String things = "p5;ta1*1;ta1*1;ta1*1;ta1*1;ta1*1;ta1*1;ta1*1;ta1*1;ta1*1;";
        due("the head's signs", things.length(), 57);
        x = new WordsUnsaid();
        due("76 signs", house(things + "p10;p10;p10@1;p10@1"), 14);
        int[] at = {76, 75, 76, 76, 76, 76, 75};
        String[] tails = {"p10;p10;p10@1;p10@1;", "p10;p10;p10@1;p1@1p0", "p10;p10;p10@1;p10@", "p10;p10;p10@1;p10@1x",
            "p10;p10;p10;p10;p100", "p10;p10;p10;p10;p10;", "p10;p10;p10;p10;p007"};
        for (int k = 0; k < tails.length; k++) {
            String text = things + tails[k];
            x = new WordsUnsaid();
            int end = Math.min(text.length(), at[k]);
            due("house \"" + text + "\"", house(text), -1 - end);
            due("nothing of it comes", x.count(0) + x.count(1), 0);
        }
        String head = "p5;ta10*1;ta10*1;ta10*1;ta10*1;ta10*1;ta10*1;ta10*1;p10@1;p10@1;p10@1;p5;";
        due("the other head's signs", head.length(), 73);
        x = new WordsUnsaid();
        due("WORDS could go on", house(head + "ta1234"), -77);
        due("WORDS of 0 are the 76th", house(head + "ta05*1"), -76);
        due("WORDS of 4 are the 76th", house(head + "ta41*1"), -77);
        due("the end is too early", house(head + "ta"), -76);
        due("a letter of nobody is the 75th", house(head + "tg1*1"), -75);
        due("HOLD of 0 is the 76th", house(head.replace("p5;ta", "p55;ta") + "p01"), -76);
        due("HOLD of 9 is the 76th", house(head.replace("p5;ta", "p55;ta") + "p91"), -77);
        due("nothing came", x.count(0) + x.count(1), 0);
        due("75 signs", house(head + "p4"), 13);
    }

    private void rule() {
        fresh("20", "p50;p50;ta40*5>b;tb40*7");
        due("HOLD is low", x.hold(0, 1), 50);
        due("keeps by no rule", x.keeps(0, 0), 0);
        dueRow("p+t/2 at the first", 5);
        String[] rules = {"", "p", "w", "y+2", "t+3", "n+1", "i+2", "o+2", "7", "999", "2+3*4", "(2+3)*4", "20-3-4",
            "20-(3-4)", "90/4/5", "90/(4/5)+2", "-7+10", "--7", "---7+20", "7--7", "3*-4+20", "-3*-4", "7/-2+10", "-7/2+10",
            "5+(2<3)", "5+(3<2)", "5+(3>2)", "5+(2>3)", "5+(2=2)", "5+(2<2)", "5+(2>2)", "5+(9=4+5)", "5*(9>4+4)", "((((p))))",
            "12/5*5", "0/0+3", "007", "p/w+p*w-p*t", "5*(t=0)", "(p)+(w)", "-(p-9)", "9-(8-(7-(6-(5))))", "9*(1<2)-(1>2)",
            "9*(2<1+2)", "9*(1+1=2)", "2*3+4*5-6/2", "100-9*9-1"};
        int[] first = {5, 5, 40, 2, 3, 2, 2, 2, 7, 999, 14, 20, 13,
            21, 4, 2, 3, 7, 13, 14, 8, 12, 7, 7,
            6, 5, 6, 5, 6, 5, 5, 6, 5, 5,
            10, 3, 7, 200, 5, 45, 4, 7, 9,
            9, 9, 23, 18};
        due("as many rules as answers", rules.length, first.length);
        for (int k = 0; k < rules.length; k++) {
            due("rule \"" + rules[k] + "\"", rule(rules[k]), 0);
            x.keeps(0, 0);
            dueRow("PRESSURE by \"" + rules[k] + "\"", first[k]);
        }
        due("a rule that is false", rule("2*(3<2)"), 0);
        due("keeps all", x.keeps(0, 0), 40);
        dueRow("it does not burst out", 0);
        due("as ints", rule("999*999*999*999"), 0);
        int wrapped = 999 * 999 * 999 * 999;
        x.keeps(0, 0);
        dueRow("as ints", wrapped > 1 ? wrapped : 0);
        due("any many -", rule("----------------------------------p"), 0);
        x.keeps(0, 0);
        dueRow("any many -", 5);
        due("40 signs", rule("1+1+1+1+1+1+1+1+1+1+1+1+1+1+1+1+1+1+1+11"), 0);
        x.keeps(0, 0);
        dueRow("40 signs", 30);
        due("who keeps it back", rule("i+9"), 0);
        x.hold(1, 1);
        x.keeps(1, 1);
        dueRow("who keeps it back: b", 10);
        due("rule: the text is gone", x.count(11), 0);
    }

    private void ruleFaults() {
        fresh("20", "p1;ta40*5");
        due("rule", rule("p+9"), 0);
        String[] texts = {"z", "+", "p+", "p+*", "p)", "()", "(", "(p", "(p+", "p p", "pp", "p2", "2p", "1000", "p<t<w", "p<t=w",
            "p=t>w", "(p<t)<w>1", "(p<t<w)", "(((((p", "((((p)))))", "p-", "-", "(-)", "*p", "p//t", "p=", "<p", "p,t", "P",
            "p<(t<w", "1+(2<3)<4<5", "(((p<t<w)))", "((((p<t=w))))", "((((p<t))))<1>2"};
        int[] at = {0, 0, 2, 2, 1, 1, 1, 2, 3, 1, 1, 1, 1, 3, 3, 3, 3, 7, 4, 4, 9, 2, 1, 2, 0, 2, 2, 0, 1, 0, 6, 9, 6, 7, 13};
        for (int k = 0; k < texts.length; k++) {
            String text = texts[k];
            due("rule \"" + text + "\"", rule(text), -1 - at[k]);
            due("the text is gone", x.count(11), 0);
            x.keeps(0, 0);
            dueRow("the rule stays", 14);
        }
        String forty = "1+1+1+1+1+1+1+1+1+1+1+1+1+1+1+1+1+1+1+11";
        due("41 signs, the first 40 could end", rule(forty + "+"), -41);
        due("41 signs, the 41st is wrong anyway", rule(forty + "x"), -41);
        due("41 signs, the first 40 could go on", rule(forty.substring(0, 39) + "+1"), -41);
        due("41 signs, the 40th can't stand", rule(forty.substring(0, 39) + "x1"), -40);
        due("39 signs that end too early", rule(forty.substring(0, 38)), -39);
        due("an open ( at the 40th", rule(forty.substring(0, 38) + "(1)"), -41);
        due("41 signs, the first is wrong", rule("+" + forty), -1);
        due("an open ( that could go on", rule("(" + forty), -41);
        due("a sign of 1", rule("p" + (char) 1 + "t"), -2);
        due("a sign of 0", rule("p" + (char) 0 + "t"), -2);
        due("a sign of 255", rule("p+" + (char) 255), -3);
    }

    private void personAndThing() {
        fresh("20,5", "p10;p6@1;ta8*2>b;ta15*1;tb9*9>a");
        int[] a = {10, 0, 3, 3, 23, 5};
        int[] b = {6, 1, 4, 4, 9, 5};
        for (int k = 0; k < 6; k++) {
            due("person(0, " + k + ")", x.person(0, k), a[k]);
            due("person(1, " + k + ")", x.person(1, k), b[k]);
        }
        int[] q = {8, 8, 2, 0, 1, 0, 1};
        int[] s = {9, 9, 9, 1, 0, 0, 2};
        for (int k = 0; k < 7; k++) {
            due("thing(0, " + k + ")", x.thing(0, k), q[k]);
            due("thing(2, " + k + ")", x.thing(2, k), s[k]);
        }
        due("say", x.say(0, 0), 0);
        due("SAID ones are its still", x.person(0, 2), 3);
        due("WORDS LEFT of those not SAID", x.person(0, 4), 15);
        due("SAID", x.thing(0, 5), 1);
        dueThrow("person(2, 0)", () -> x.person(2, 0));
        dueThrow("person(-1, 0)", () -> x.person(-1, 0));
        dueThrow("person(0, 6)", () -> x.person(0, 6));
        dueThrow("person(0, -1)", () -> x.person(0, -1));
        dueThrow("thing(3, 0)", () -> x.thing(3, 0));
        dueThrow("thing(-1, 0)", () -> x.thing(-1, 0));
        dueThrow("thing(0, 7)", () -> x.thing(0, 7));
        dueThrow("thing(0, -1)", () -> x.thing(0, -1));
        dueThrow("person(MAX, 0)", () -> x.person(Integer.MAX_VALUE, 0));
        dueThrow("thing(32, 0)", () -> x.thing(32, 0));
    }

    private void islet() {
        x = new WordsUnsaid();
        due("islet(0) of none", x.islet(0), NONE);
        river("20,5,12");
        due("islet(0)", x.islet(0), 5);
        due("islet(1)", x.islet(1), 12);
        due("islet(2)", x.islet(2), NONE);
        due("islet(-1)", x.islet(-1), NONE);
        river("20,7");
        due("islet(1) of one", x.islet(1), NONE);
        due("islet(MIN)", x.islet(Integer.MIN_VALUE), NONE);
    }

    private void hold() {
        fresh("20", "p10;p6");
        due("hold(0, 99)", x.hold(0, 99), 10);
        due("hold(0, 1)", x.hold(0, 1), 99);
        due("HOLD is", x.person(0, 0), 1);
        refused("hold(0, 0)", NONE, () -> x.hold(0, 0));
        refused("hold(0, 100)", NONE, () -> x.hold(0, 100));
        refused("hold(0, -5)", NONE, () -> x.hold(0, -5));
        refused("hold(2, 5)", NONE, () -> x.hold(2, 5));
        refused("hold(-1, 5)", NONE, () -> x.hold(-1, 5));
        due("HOLD of b", x.person(1, 0), 6);
        due("hold can't be undone", x.undo(), NONE);
    }

    private void dueSheet(String what, int got, int sum, int... press) {
        due(what, got, sum);
        for (int k = 0; k < press.length; k++) {
            due(what + ": PRESS of " + k, x.thing(k, 2), press[k]);
        }
    }

    private void sheet() {
        fresh("20", "p10;ta8*2;ta8*3;ta8*4;ta8*5");
        dueSheet("ints", x.sheet(2, 4, 1, 2), 16, 1, 3, 5, 7);
        dueSheet("ints, put to 0 .. 9", x.sheet(2, 4, -3, 7), 22, 0, 4, 9, 9);
        dueSheet("fewer", x.sheet(2, 2, 1, 2), 4, 1, 3, 0, 0);
        dueSheet("none", x.sheet(2, 0, 1, 2), 0, 0, 0, 0, 0);
        dueSheet("more", x.sheet(2, 10, 4, -1), 10, 4, 3, 2, 1);
        dueSheet("bytes", x.sheet(0, 4, 255, 1), 3, 0, 0, 1, 2);
        dueSheet("bytes", x.sheet(0, 3, 127, 129), 9, 9, 0, 0, 0);
        dueSheet("bytes of ints", x.sheet(0, 4, 0x7fffff05, 0x100), 20, 5, 5, 5, 5);
        dueSheet("shorts", x.sheet(1, 4, 65535, 1), 3, 0, 0, 1, 2);
        dueSheet("shorts", x.sheet(1, 2, 255, 32513), 9, 9, 0, 0, 0);
        dueSheet("shorts of ints", x.sheet(1, 4, 0x70003, 0x10000), 12, 3, 3, 3, 3);
        dueSheet("ints that wrap", x.sheet(2, 2, Integer.MAX_VALUE, 5), 9, 9, 0, 0, 0);
        refused("n below 0", -2, () -> x.sheet(2, -1, 1, 1));
        refused("n below 0, bytes", -2, () -> x.sheet(0, -7, 1, 1));
        refused("n above 10", NONE, () -> x.sheet(2, 11, 1, 1));
        refused("another kind", NONE, () -> x.sheet(4, 3, 1, 1));
        refused("another kind", NONE, () -> x.sheet(-1, -3, 1, 1));
        refused("a missing one of 11", NONE, () -> x.sheet(3, 11, 1, 1));
        dueSheet("a missing one", x.sheet(3, -4, 1, 1), -3, 0, 0, 0, 0);
        x.sheet(2, 4, 1, 1);
        dueSheet("a missing one of 10", x.sheet(3, 10, 1, 1), -3, 0, 0, 0, 0);
        x = new WordsUnsaid();
        due("a sheet of nothing", x.sheet(2, 10, 5, 0), 0);
        due("a sheet tells no row", x.count(10), 0);
    }
}
