/**
 * The boundary cases that the document names, promise by promise: too small, too large, empty, full, wrapped round, refused.
 * What the other tests hold already is not told again here, unless it is the neighbour of a case that is.
 */
public final class BoundaryPromises extends Checks {
    private static final int MIN = Integer.MIN_VALUE;
    private static final int MAX = Integer.MAX_VALUE;
    private static final String MIN_BY_RULE = "512*512*512*16";
    private static final String SIX = "p9;p9;p9;p9;p9;p9";

    public static void main(String[] args) {
        BoundaryPromises t = new BoundaryPromises();
        t.signAndEnd();
        t.riverYards();
        t.riverIslets();
        t.houseNumbers();
        t.houseRoom();
        t.houseSigns();
        t.ruleNumbers();
        t.ruleSigns();
        t.ruleAsInts();
        t.ruleLetters();
        t.sheetEntries();
        t.sheetRefused();
        t.crossWho();
        t.crossWords();
        t.crossHold();
        t.crossIslets();
        t.sayAndWhisper();
        t.sellCoins();
        t.dayActs();
        t.undoRound();
        t.undoOfFull();
        t.farAndKeeps();
        t.fewestAndRows();
        t.backRows();
        t.backByWhatIsLeft();
        t.exactSums();
        t.exactEnds();
        t.chanceOdds();
        t.chanceAsInts();
        t.partyBits();
        t.poolRows();
        t.knownPlaces();
        t.sparedOnes();
        t.ashoreIslets();
        t.aboutRows();
        t.bargainOffers();
        t.yearsSeeds();
        t.keptNumbers();
        t.noneAhead();
        t.fiveHundredAndTwelve();
        t.finish("BoundaryPromises");
    }

    /** Six are at the near bank, and a has ten THINGS. */
    private void full(String river, int words, int press) {
        fresh(river, SIX);
        things(10, 'a', words, press);
    }

    private void things(int many, char whose, int words, int press) {
        for (int k = 0; k < many; k++) {
            due("a THING more", house("t" + whose + words + "*" + press), 1);
        }
    }

    // ---- promises 2 and 3

    private void signAndEnd() {
        x = new WordsUnsaid();
        for (int k = 0; k < 20; k++) {
            x.sign(MIN);
        }
        refused("there would be 84", NONE, () -> x.sign(MAX));
        due("80 stay", x.count(11), 80);
        due("it has not 81", x.end(81), false);
        due("it has not MAX", x.end(MAX), false);
        due("80 of 80", x.end(80), true);
        for (int n = 79; n >= 77; n--) {
            due("the first " + n, x.end(n), true);
            refused("no room for four behind " + n, NONE, () -> x.sign(0));
            due(n + " stay", x.count(11), n);
        }
        due("the first 76", x.end(76), true);
        due("80 are not more than 80", x.sign(-1), 80);
        due("below 0", x.end(-1), false);
        due("80 stay", x.count(11), 80);
        due("none of 80", x.end(0), true);
        due("an empty one", x.count(11), 0);
        due("four come behind nothing", x.sign(0), 4);
    }

    // ---- promise 4

    private void dueFaults(String what, String[] texts, int[] at, Reading reading) {
        due(what + ": as many texts as answers", texts.length, at.length);
        for (int k = 0; k < texts.length; k++) {
            String text = texts[k];
            refused(what + " \"" + text + "\"", -1 - at[k], () -> reading.read(text));
            due(what + ": THE TEXT is empty behind \"" + text + "\"", x.count(11), 0);
        }
    }

    interface Reading {
        int read(String text);
    }

    private void riverYards() {
        x = new WordsUnsaid();
        due("2 YARDS", river("2"), 0);
        due("2 by two digits", river("02"), 0);
        due("60 YARDS", river("60"), 0);
        due("60 YARDS stand", x.count(3), 60);
        String[] texts = {"1", "01", "0", "61", "002", "020", "600", "2 ", "-2", "+2", "2.", ",", "a"};
        int[] at = {0, 1, 0, 1, 1, 2, 2, 1, 0, 0, 1, 0, 0};
        dueFaults("YARDS", texts, at, this::river);
        StringBuilder s = new StringBuilder("20,5,12");
        while (s.length() < 80) {
            s.append('7');
        }
        refused("80 signs", -8, () -> river(s.toString()));
        due("60 YARDS stand still", x.count(3), 60);
        dueThrow("no ISLET: no row", () -> x.row(0));
    }

    private void riverIslets() {
        x = new WordsUnsaid();
        due("all between", river("6,1,2,3,4,5"), 5);
        due("the first", x.islet(0), 1);
        due("the fifth", x.islet(4), 5);
        refused("a sixth there is not", NONE, () -> x.islet(5));
        String[] texts = {"60,0", "60,00", "60,60", "60,61", "60,99", "60,001", "60,010", "60,100", "60,7,7", "60,7,07", "60,7,6",
            "60,59,", "60,59,60", "60,1,2,3,4,5,", "60,1,2,3,4,5,6", "60,1,2,3,4,5;", "60,1,2,3,4,", "60,,", "60,-1", "2,2", "2,1,1"};
        int[] at = {3, 4, 4, 4, 4, 4, 5, 5, 5, 6, 5, 6, 7, 12, 12, 12, 11, 3, 3, 2, 4};
        dueFaults("ISLETS", texts, at, this::river);
        due("fewer ISLETS", river("60,59"), 1);
        due("less than YARDS", x.islet(0), 59);
        refused("the second is gone", NONE, () -> x.islet(1));
        due("no ISLETS", river("60"), 0);
        refused("the first is gone", NONE, () -> x.islet(0));
    }

    // ---- promise 5

    private void houseNumbers() {
        x = new WordsUnsaid();
        due("HOLD 1, 01, 99, 09", house("p1;p01;p99;p09"), 4);
        int[] hold = {1, 1, 99, 9};
        for (int k = 0; k < hold.length; k++) {
            due("HOLD of " + k, x.person(k, 0), hold[k]);
        }
        due("WORDS 1, 01, 40, 09", house("ta1*0;ta01*9;ta40*0;ta09*9"), 4);
        int[] words = {1, 1, 40, 9};
        for (int k = 0; k < words.length; k++) {
            due("WORDS of " + k, x.thing(k, 0), words[k]);
            due("PRESS of " + k, x.thing(k, 2), k % 2 * 9);
            due("LEFT of " + k, x.thing(k, 1), words[k]);
        }
        String[] texts = {"p0", "p00", "p000", "p005", "p010", "p100", "p-1", "p+1", "p 1", "p9@", "p9@2", "p9@-", "p9@00", "p9@1@",
            "p9@@", "p@1", "p9 ", "ta0*0", "ta00*0", "ta000*0", "ta001*0", "ta010*0", "ta400*0", "ta41*0", "ta99*0", "ta-1*0",
            "ta*0", "ta1**", "ta1*-1", "ta1*00", "ta1*10", "ta1*0>", "ta1*0>0", "ta1*0>>", "ta1*0>b>c", "ta1*0 ", "ta1*0,"};
        int[] at = {1, 2, 2, 2, 3, 3, 1, 1, 1, 3, 3, 3, 4, 4,
            3, 1, 2, 2, 3, 3, 3, 4, 4, 3, 3, 2,
            2, 4, 4, 5, 5, 6, 6, 6, 7, 5, 5};
        dueFaults("house", texts, at, this::house);
        refused("no LINE at all", -1, () -> house(";"));
        refused("no LINE behind ;", -4, () -> house("p9;"));
        refused("no LINE between", -4, () -> house("p9;;p9"));
        due("none of these came", x.count(0) + x.count(1), 8);
    }

    private void houseRoom() {
        fresh("20", SIX);
        due("six are there", x.count(0), 6);
        refused("no room for a seventh", -1, () -> house("p9"));
        refused("no room, told badly", -1, () -> house("p0"));
        refused("no room behind a THING: nothing of it comes", -7, () -> house("tf1*0;p9"));
        due("no THING came", x.count(1), 0);
        due("the sixth has one ABOUT the first", house("tf1*0>a"), 1);
        refused("a seventh letter", -2, () -> house("tg1*0"));
        refused("ABOUT a seventh letter", -7, () -> house("tf1*0>g"));
        refused("ABOUT the sixth, whose it is", -7, () -> house("tf1*0>f"));
        things(9, 'f', 1, 0);
        due("ten are there", x.count(1), 10);
        refused("no room for an eleventh", -1, () -> house("ta1*0"));
        refused("no room, told badly", -1, () -> house("tz"));
        refused("no room for anything", -1, () -> house("p9;ta1*0"));
        refused("a LINE of neither kind", -1, () -> house("x"));
        due("an empty one has room", house(""), 0);
        fresh("20", "p9");
        refused("a letter of one who comes behind it", -2, () -> house("tb1*0;p9"));
        refused("ABOUT one who comes behind it", -7, () -> house("ta1*0>b;p9"));
        due("ABOUT one who comes ahead of it", house("p9;ta1*0>b"), 2);
        fresh("20", SIX.substring(3));
        refused("a seventh behind a sixth of this TEXT", -4, () -> house("p9;p9;ta1*0"));
        due("five stay", x.count(0), 5);
        x = new WordsUnsaid();
        refused("a THING of nobody", -2, () -> house("ta1*0"));
    }

    /** 57 signs, then 19 more. */
    private void houseSigns() {
        String things = "p5;ta1*1;ta1*1;ta1*1;ta1*1;ta1*1;ta1*1;ta1*1;ta1*1;ta1*1;";
        String all = things + "p10;p10;p10@1;p10@1";
        due("76 signs", all.length(), 76);
        x = new WordsUnsaid();
        for (int more = 1; more <= 4; more++) {
            String text = all + ";p99".substring(0, more);
            refused(text.length() + " signs, the first 76 could end", -77, () -> house(text));
        }
        refused("77 signs, the 75th can't stand", -75, () -> house(all.substring(0, 74) + "x1;"));
        refused("77 signs, the 76th can't stand", -76, () -> house(all.substring(0, 75) + "2;"));
        refused("77 signs, the first can't stand", -1, () -> house("x" + all));
        refused("75 signs that end too early", -76, () -> house(all.substring(0, 75)));
        refused("76 signs that end too early", -77, () -> house(things + "p10;p10;p10@1;p1@1;"));
        refused("a 0 that is the 76th is a HOLD of 0", -76, () -> house(things + "p10@1;p10@1;p5@1;p05"));
        refused("a 9 that is the 76th could go on", -77, () -> house(things + "p10@1;p10@1;p5@1;p95"));
        refused("a 0 that is the 76th is WORDS of 0", -76, () -> house(things + "p10@1;p10@1;p10;ta05*1"));
        refused("a 4 that is the 76th could go on", -77, () -> house(things + "p10@1;p10@1;p10;ta41*1"));
        refused("a ; that is the 76th could go on", -77, () -> house(things + "p10@1;p10@1;p10;p5;p"));
        due("nothing came", x.count(0) + x.count(1), 0);
        due("76 signs come", house(all), 14);
        due("five are there", x.count(0), 5);
        due("nine things are there", x.count(1), 9);
    }

    // ---- promise 6

    private void presses(String rule, int pressure) {
        due("rule \"" + rule + "\"", rule(rule), 0);
        due("it can't be kept back by \"" + rule + "\"", x.keeps(0, 0), 0);
        dueRow("PRESSURE by \"" + rule + "\"", pressure);
    }

    private void neverPresses(String rule) {
        due("rule \"" + rule + "\"", rule(rule), 0);
        due("all is kept back by \"" + rule + "\"", x.keeps(0, 0), 40);
        dueRow("it does not BURST OUT by \"" + rule + "\"", 0);
    }

    private void ruleNumbers() {
        fresh("20", "p1;ta40*5");
        presses("2", 2);
        presses("02", 2);
        presses("002", 2);
        presses("999", 999);
        neverPresses("0");
        neverPresses("1");
        neverPresses("000");
        presses("5-000", 5);
        dueFaults("rule", new String[] {"0000", "0002", "1000", "9999", "p+1000", "2-0000"}, new int[] {3, 3, 3, 3, 5, 5}, this::rule);
        presses("((((7))))", 7);
        presses("((((1+2))+3)+4)", 10);
        presses("(1)+(2)+(3)+(4)+(5)", 15);
        presses("((((2))))+((((3))))", 5);
        dueFaults("rule", new String[] {"(((((7)))))", "((((7)))))", "1+((((2+(3)))))", "(((((", "((((-(1)))))", "((((", "))"},
            new int[] {4, 9, 8, 4, 5, 4, 0}, this::rule);
        presses("-----2+9", 7);
        presses("9--2", 11);
        presses("3*--4", 12);
        presses("(2>1)*5", 5);
        presses("(2>1)+(3>2)+(4>3)", 3);
        presses("2+(1<2)", 3);
        dueFaults("rule", new String[] {"1<2<3", "1=2=3", "1>2=3", "1<(2<3)>4", "(1<2)<3=4", "5*(1<2>3)", "1<2+3<4"},
            new int[] {3, 3, 3, 7, 7, 6, 5}, this::rule);
        presses("2*(1<(2<3)+1)", 2);
        presses("3*((1<2)=(3>2))", 3);
    }

    private void ruleSigns() {
        fresh("20", "p1;ta40*5");
        String minuses = "-".repeat(38);
        presses(minuses + "p", 5);
        neverPresses(minuses + "-p");
        refused("40 and a thing", -41, () -> rule(minuses + "--p"));
        refused("40 that end too early", -41, () -> rule(minuses + "--"));
        refused("80 of them", -41, () -> rule(minuses + minuses + "----"));
        String sum = "1+".repeat(19);
        presses(sum + "11", 30);
        presses(sum + "p", 24);
        refused("a NUMBER that goes on behind the 40th", -41, () -> rule(sum + "111"));
        refused("a NUMBER of four behind the 40th", -41, () -> rule(sum + "1111"));
        refused("the 40th can't stand", -40, () -> rule(sum + "1p1"));
        refused("the 39th can't stand", -39, () -> rule(sum + "*11"));
        refused("a ( is the 40th", -41, () -> rule(sum + "-(p)"));
        refused("39 that end too early", -40, () -> rule(sum + "-"));
        refused("38 that end too early", -39, () -> rule(sum));
        presses("", 5);
    }

    private void ruleAsInts() {
        fresh("20", "p1;ta40*5");
        neverPresses(MIN_BY_RULE);
        presses(MIN_BY_RULE + "-1", MAX);
        neverPresses("-(" + MIN_BY_RULE + ")");
        neverPresses(MIN_BY_RULE + "/-1");
        presses(MIN_BY_RULE + "/-1-1", MAX);
        presses(MIN_BY_RULE + "/-2", 1 << 30);
        neverPresses("-(" + MIN_BY_RULE + "-1)");
        presses("-999*999*999*999", 426416671);
        neverPresses("999*999*999*999");
        neverPresses("512*512*512*32");
        presses("512*512*512*32+7", 7);
        presses("7-1/0", 7);
        presses("7-0/0", 7);
        presses("7+" + MIN_BY_RULE + "/0", 7);
        presses("7-p/(p-5)", 7);
        presses("9*(" + MIN_BY_RULE + "<0)", 9);
        presses("9*(" + MIN_BY_RULE + "-1>0)", 9);
        presses("9+-1/2", 9);
        presses("9--3/2", 10);
        presses("9-3/-2", 10);
    }

    /** What each letter is at its first and at its last. */
    private void ruleLetters() {
        fresh("40", SIX);
        house("tf40*9>a;ta1*0");
        String[] rules = {"99*(w=40)", "99*(w=1)", "99*(w=0)", "99*(t=0)", "99*(t=39)", "99*(t=40)", "99*(y=0)", "99*(y=39)", "99*(y=40)",
            "99*(i=5)", "99*(i=6)", "99*(n=1)", "99*(n=0)", "99*(n=2)", "99*(o=0)", "99*(o=1)", "99*(p=9)", "99*(p=8)"};
        int[] crossed = {0, 39, 40, 0, 39, 40, 0, 39, 40, 0, 40, 0, 40, 40, 0, 40, 0, 40};
        due("as many rules as answers", rules.length, crossed.length);
        for (int k = 0; k < rules.length; k++) {
            rule(rules[k]);
            due("by \"" + rules[k] + "\"", look("q", 5, NONE, 1), crossed[k]);
        }
        rule("99*(n=2)*(o=1)*(y=7)");
        due("one that it is ABOUT is aboard", look("q", 5, 0, 1), 7);
        due("another one is aboard", look("q", 5, 1, 1), 40);
        due("alone", look("q", 5, NONE, 1), 40);
        rule("p+t/2");
        x.sheet(2, 1, 0, 0);
        due("9 + 1 is the first above 9", look("q", 5, NONE, 1), 20);
    }

    // ---- promise 11

    private void dueSheet(String what, int got, int sum, int... press) {
        due(what, got, sum);
        for (int k = 0; k < press.length; k++) {
            due(what + ": PRESS of " + k, x.thing(k, 2), press[k]);
        }
    }

    private void sheetEntries() {
        fresh("20", "p9;ta1*1;ta1*2;ta1*3");
        dueSheet("a byte of 127, of 128", x.sheet(0, 3, 127, 1), 9, 9, 0, 0);
        dueSheet("bytes of -1, 0, 1", x.sheet(0, 3, 255, 1), 1, 0, 0, 1);
        dueSheet("bytes of 9, 10", x.sheet(0, 3, 9, 1), 27, 9, 9, 9);
        dueSheet("bytes of 256 and more", x.sheet(0, 3, 256, 257), 3, 0, 1, 2);
        dueSheet("bytes of MIN", x.sheet(0, 3, MIN, 4), 12, 0, 4, 8);
        dueSheet("a short of 32767, of 32768", x.sheet(1, 3, 32767, 1), 9, 9, 0, 0);
        dueSheet("shorts of -1, 0, 1", x.sheet(1, 3, 65535, 1), 1, 0, 0, 1);
        dueSheet("a short is no byte", x.sheet(1, 3, 128, 128), 27, 9, 9, 9);
        dueSheet("shorts of MAX", x.sheet(1, 3, MAX, 3), 7, 0, 2, 5);
        dueSheet("an int is no short", x.sheet(2, 3, 32768, 32768), 27, 9, 9, 9);
        dueSheet("ints of MIN, 0, MIN", x.sheet(2, 3, MIN, MIN), 0, 0, 0, 0);
        dueSheet("ints of 5, below 0, 5", x.sheet(2, 3, 5, MIN), 10, 5, 0, 5);
        dueSheet("ints of MAX, 0, -MAX", x.sheet(2, 3, MAX, -MAX), 9, 9, 0, 0);
        dueSheet("ints that wrap round to below 0", x.sheet(2, 3, MAX - 1, 3), 9, 9, 0, 0);
        dueSheet("ints of MAX, -2, MAX - 2", x.sheet(2, 3, MAX, MAX), 18, 9, 0, 9);
        dueSheet("ints of -9, 0, 9", x.sheet(2, 3, -9, 9), 9, 0, 0, 9);
    }

    private void sheetRefused() {
        fresh("20", "p9;ta1*1;ta1*2;ta1*3");
        refused("kind 4", NONE, () -> x.sheet(4, 0, 1, 1));
        refused("kind -1", NONE, () -> x.sheet(-1, 0, 1, 1));
        refused("kind MIN with n below 0", NONE, () -> x.sheet(MIN, -1, 1, 1));
        refused("kind MAX with n below 0", NONE, () -> x.sheet(MAX, MIN, 1, 1));
        for (int kind = 0; kind < 3; kind++) {
            int of = kind;
            refused("n of 11, kind " + kind, NONE, () -> x.sheet(of, 11, 1, 1));
            refused("n of MAX, kind " + kind, NONE, () -> x.sheet(of, MAX, 1, 1));
            refused("n of -1, kind " + kind, -2, () -> x.sheet(of, -1, 1, 1));
            refused("n of MIN, kind " + kind, -2, () -> x.sheet(of, MIN, 1, 1));
            dueSheet("n of 10, kind " + kind, x.sheet(of, 10, 3, 1), 12, 3, 4, 5);
            dueSheet("n of 3, kind " + kind, x.sheet(of, 3, 4, 1), 15, 4, 5, 6);
            dueSheet("n of 2, kind " + kind, x.sheet(of, 2, 4, 1), 9, 4, 5, 0);
            dueSheet("n of 1, kind " + kind, x.sheet(of, 1, 4, 1), 4, 4, 0, 0);
            dueSheet("n of 0, kind " + kind, x.sheet(of, 0, 4, 1), 0, 0, 0, 0);
            x.sheet(of, 3, 1, 1);
        }
        refused("a missing one, n of 11", NONE, () -> x.sheet(3, 11, 1, 1));
        dueSheet("a missing one, n of MIN", x.sheet(3, MIN, 1, 1), -3, 0, 0, 0);
        x.sheet(0, 3, 1, 1);
        dueSheet("a missing one, n of 0", x.sheet(3, 0, 9, 9), -3, 0, 0, 0);
        full("20", 1, 1);
        due("ten of ten", x.sheet(2, 10, 0, 1), 45);
        due("the tenth", x.thing(9, 2), 9);
        due("nine of ten", x.sheet(2, 9, 1, 0), 9);
        due("the tenth is behind those", x.thing(9, 2), 0);
    }

    // ---- promises 12 and 13

    private void dueBoth(String what, int want, String text, int person, int other, int bank) {
        refused(what, want, () -> cross(text, person, other, bank));
        due(what + ": THE TEXT is empty", x.count(11), 0);
        refused(what + ", looked at", want, () -> look(text, person, other, bank));
        due(what + ", looked at: THE TEXT is empty", x.count(11), 0);
    }

    private void crossWho() {
        fresh("9,4", "p9;p9;p9@1;ta9*0;tb9*0;tc9*0");
        int[] nobody = {3, 5, 6, 32, -1, -2, MIN, MAX};
        for (int who : nobody) {
            dueBoth("person " + who, -100, "q", who, NONE, 1);
            if (who != NONE) {
                dueBoth("other one " + who, -100, "q", 0, who, 1);
            }
        }
        int[] nowhere = {-1, 2, 3, MIN, MAX};
        for (int bank : nowhere) {
            dueBoth("bank " + bank, -100, "q", 0, NONE, bank);
        }
        dueBoth("like ones", -100, "q", 0, 0, 1);
        dueBoth("not at one place", -100, "q", 0, 2, 1);
        dueBoth("both are at that bank", -100, "q", 0, 1, 0);
        dueBoth("it is at that bank", -100, "t", 2, NONE, 1);
        dueBoth("-100 is asked ahead of an empty TEXT", -100, "", 0, NONE, 0);
        dueBoth("-100 is asked ahead of a wrong sign", -100, "!", 0, 2, 1);
        dueBoth("the end for none", -1, "", 0, NONE, 1);
        dueBoth("not aboard", -1, "r", 0, NONE, 1);
        dueBoth("not aboard with b", -3, "qrs", 0, 1, 1);
        dueBoth("a letter of no THING", -2, "qt", 0, NONE, 1);
        dueBoth("ahead of q", -1, "p", 0, NONE, 1);
        dueBoth("behind z", -1, "{", 0, NONE, 1);
        dueBoth("the sign 255", -2, "q" + (char) 255, 0, NONE, 1);
        dueBoth("the sign 0", -2, "q" + (char) 0, 0, NONE, 1);
        due("who is not told of can be the other one", look("r", 0, 1, 1), 9);
    }

    private void crossWords() {
        full("6", 1, 0);
        rule("0");
        dueBoth("5 WORDS for 6 yards", -200, "qrstu", 0, NONE, 1);
        dueBoth("a wrong sign is told ahead of -200", -6, "qrstuq", 0, NONE, 1);
        dueBoth("a seventh", -7, "qrstuvw", 0, NONE, 1);
        dueBoth("a seventh that is told already", -7, "qrstuvq", 0, NONE, 1);
        dueBoth("80 signs", -7, "qrstuvwxyz".repeat(8), 0, NONE, 1);
        due("6 WORDS for 6 yards", cross("zyxwvu", 0, NONE, 1), 6);
        dueRow("6 WORDS for 6 yards", 1, NONE, 6);
        dueBoth("without WORDS LEFT", -1, "z", 0, NONE, 0);
        dueBoth("4 WORDS for 6 yards", -200, "qrst", 0, NONE, 0);
        fresh("40", "p9;ta40*0;ta40*0");
        rule("0");
        due("40 WORDS for 40 yards", cross("q", 0, NONE, 1), 40);
        due("none is LEFT", x.thing(0, 1), 0);
        dueBoth("it has none LEFT", -2, "rq", 0, NONE, 0);
        x.say(0, 1);
        dueBoth("SAID", -1, "r", 0, NONE, 0);
        fresh("60", "p9;ta40*0;ta20*0;ta19*0");
        rule("0");
        dueBoth("59 WORDS for 60 yards", -200, "qs", 0, NONE, 1);
        due("60 WORDS for 60 yards", cross("qr", 0, NONE, 1), 60);
    }

    /** PRESSURE that is HOLD is kept back; one more is not. */
    private void crossHold() {
        fresh("9", "p1;ta9*0");
        rule("1");
        due("PRESSURE of 1, HOLD of 1", look("q", 0, NONE, 1), 9);
        rule("2");
        due("PRESSURE of 2, HOLD of 1", look("q", 0, NONE, 1), 0);
        dueRow("at its first yard", 0, 0, 0);
        x.hold(0, 99);
        rule("99");
        due("PRESSURE of 99, HOLD of 99", look("q", 0, NONE, 1), 9);
        rule("100");
        due("PRESSURE of 100, HOLD of 99", look("q", 0, NONE, 1), 0);
        rule("99+(y=8)");
        due("at its last yard", cross("q", 0, NONE, 1), 8);
        dueRow("at its last yard", 0, 0, 8);
        due("8 WORDS are used up", x.thing(0, 1), 1);
        due("it is SAID", x.thing(0, 5), 1);
        fresh("9", "p9;p3;ta9*0;tb9*0");
        rule("4");
        due("HOLD of the one whose it is", look("q", 1, 0, 1), 9);
        due("HOLD of the one whose it is", look("r", 0, 1, 1), 0);
    }

    private void crossIslets() {
        fresh("9,1,8", "p9;p9;p9@1;ta9*0;tb9*0;tc9*0");
        int[] yards = {0, 1, 2, 7, 8};
        int[] outward = {0, 2, 2, 2, 3};
        int[] homeward = {1, 3, 3, 3, 2};
        for (int k = 0; k < yards.length; k++) {
            rule("99*(y=" + yards[k] + ")");
            due("out: at " + yards[k], look("q", 0, NONE, 1), yards[k]);
            dueRow("out: at " + yards[k], outward[k], 0, yards[k]);
            due("home: at " + yards[k], look("s", 2, NONE, 0), yards[k]);
            dueRow("home: at " + yards[k], homeward[k], 2, yards[k]);
        }
        rule("99*(y=1)");
        due("both are put ashore", cross("q", 0, 1, 1), 1);
        due("both are on ISLET 0", x.count(6), 3);
        rule("99*(y=0)");
        due("at once, home", look("r", 1, 0, 0), 0);
        dueRow("where they began does not count: they are there", 2, 1, 0);
        due("1 yard is left of it", x.far(0, 0), 1);
        due("8 yards are left of it", x.far(0, 1), 8);
        rule("99*(y=6)");
        due("a yard ahead of ISLET 1", look("r", 1, 0, 1), 6);
        dueRow("a yard ahead of ISLET 1", 2, 1, 6);
        rule("99*(y=7)");
        due("at ISLET 1", look("r", 1, 0, 1), 7);
        dueRow("at ISLET 1", 3, 1, 7);
        rule("0");
        due("one yard home", cross("r", 1, 0, 0), 1);
        due("nobody is on ISLETS", x.count(6), 0);
        due("THE RIVER can be told", river("2"), 0);
    }

    // ---- promises 14 to 16

    private void sayAndWhisper() {
        fresh("9", SIX + ";ta9*0;ta9*0>f;tf9*0>a");
        due("five did not KNOW it", x.say(0, 0), 5);
        due("all six KNOW it", x.thing(0, 6), 63);
        refused("the one that it is ABOUT is there", -2, () -> x.say(0, 1));
        x.undo();
        for (int other = 1; other < 6; other++) {
            due("passed on to " + other, x.whisper(0, other, 0), 1);
            due("passed on again", x.whisper(0, other, 0), 0);
        }
        due("none did not KNOW it", x.say(0, 0), 0);
        due("what all KNOW is passed on", x.whisper(5, 0, 0), 0);
        due("ABOUT the one to whom it is passed on", x.whisper(0, 5, 1), 1);
        int[] none = {6, -1, 32, MIN, MAX};
        for (int k : none) {
            refused("say: person " + k, NONE, () -> x.say(k, 0));
            refused("whisper: person " + k, NONE, () -> x.whisper(k, 0, 0));
            refused("whisper: other one " + k, NONE, () -> x.whisper(0, k, 0));
            refused("sell: person " + k, NONE, () -> x.sell(k, 0, 1));
            refused("sell: other one " + k, NONE, () -> x.sell(0, k, 1));
        }
        int[] nothing = {3, 9, 10, -1, 32, MIN, MAX};
        for (int k : nothing) {
            refused("say: THING " + k, NONE, () -> x.say(0, k));
            refused("whisper: THING " + k, NONE, () -> x.whisper(0, 1, k));
            refused("sell: THING " + k, NONE, () -> x.sell(0, 1, k));
            refused("keeps: THING " + k, NONE, () -> x.keeps(0, k));
        }
        fresh("9", "p9;p9@1;ta9*0>b");
        due("the one that it is ABOUT is not there", x.say(0, 0), 0);
        refused("what was SAID is passed on at one place alone", -2, () -> x.whisper(0, 1, 0));
    }

    /** There are 30 coins in all: so nobody can have more than 99. */
    private void sellCoins() {
        fresh("9", "p9;p9;p9@1;ta25*0;ta26*0;ta1*0;ta5*0>b;tb6*0;tc1*0");
        refused("26 WORDS for 6 coins", -3, () -> x.sell(0, 1, 1));
        due("25 WORDS for 5 coins", x.sell(0, 1, 0), 5);
        due("b has none", x.person(1, 5), 0);
        due("a has ten", x.person(0, 5), 10);
        refused("one coin of none", -3, () -> x.sell(0, 1, 2));
        due("a buys b's", x.sell(1, 0, 4), 2);
        due("one coin of two", x.sell(0, 1, 2), 1);
        refused("the one that it is ABOUT", -3, () -> x.sell(0, 1, 3));
        refused("not its own, and not at one place", NONE, () -> x.sell(0, 2, 5));
        refused("not at one place, with too few coins", -2, () -> x.sell(0, 2, 1));
        x.say(0, 1);
        refused("SAID, and not at one place", NONE, () -> x.sell(0, 2, 1));
        due("the buyer says it then", x.say(1, 2), 0);
        due("the seller KNOWS it still", x.thing(2, 6), 3);
        fresh("9", "p9;p9;p9@1;ta9*0");
        rule("0");
        cross("q", 0, NONE, 1);
        refused("no WORDS LEFT, ahead of not at one place", NONE, () -> x.sell(0, 1, 0));
        refused("no WORDS LEFT", NONE, () -> x.sell(0, 2, 0));
        due("what has no WORDS LEFT can be passed on", x.whisper(0, 2, 0), 1);
        due("what has no WORDS LEFT can be SAID", x.say(0, 0), 0);
    }

    // ---- promises 17 and 18

    private void dayActs() {
        fresh("2", SIX + ";tf9*0;tf9*0;tf9*0");
        rule("0");
        dueFaults("day", new String[] {"s", "sf", "sfq;", ";sfq", "sgq", "sfp", "sf{", "Sfq", "vffqq", "wfq", "cf:q", "cf2:q", "cf-1:q",
            "cf+f1:q", "cf+g1:q", "cf+1:q", "cf+a:q", "cf1;q", "cf1:", "cf1:qrstuvw", "cf1:qq;", "cf1:p", "cf1:q ", "cf1::q", "cff1:q"},
            new int[] {1, 2, 4, 0, 1, 2, 2, 0, 4, 2, 2, 2, 2,
                3, 3, 3, 4, 3, 4, 10, 7, 4, 5, 4, 2}, this::day);
        asked("like ones can stand, but can't be", 0, () -> day("vffq"), 1, 0);
        asked("like ones can stand, but can't be", 0, () -> day("wffq;sfq"), 1, 0);
        asked("a letter told twice can stand, but can't be", 0, () -> day("cf1:qq"), 1, 0);
        asked("no such THINGS can stand, but can't be", 0, () -> day("cf1:uvwxyz"), 1, 0);
        river("20");
        asked("too few WORDS can't be", 0, () -> day("cf1:qr;sfq"), 1, 0);
        river("2");
        asked("an empty one", 0, () -> day(""), 0, 0);
        due("all are done", day("cf1:q;cf0:q;cf1:q;cf0:q;sfq;wfas;vfbs"), 7);
        dueRow("all are done", 0, 0);
        due("as one", x.undo(), 0);
        due("nothing of it is left", x.count(7) + x.thing(2, 6) - 32, 0);
        due("9 WORDS are LEFT", x.thing(0, 1), 9);
        due("one ACT of two", day("sfq;sfq"), 1);
        dueRow("one ACT of two", 1, 0);
        due("is kept as one", x.count(9), 1);
        rule("99");
        due("who BURSTS OUT is done", day("cf+a1:s;cf1:r;cf1:r"), 2);
        dueRow("who BURSTS OUT is done, the SAID one can't be", 1, 2);
    }

    private void undoRound() {
        fresh("9", "p9;p9;ta9*0;tb9*0");
        refused("none", NONE, () -> x.undo());
        for (int k = 1; k <= 30; k++) {
            due("passed on", x.whisper(k % 2, 1 - k % 2, k % 2 == 0 ? 0 : 1) >= 0, true);
            due("the 12 latest are kept", x.count(9), Math.min(k, 12));
        }
        due("what is refused is not kept", x.whisper(0, 0, 0), NONE);
        due("12 still", x.count(9), 12);
        for (int k = 11; k >= 6; k--) {
            due("undone", x.undo(), k);
        }
        due("a THING is SAID", x.say(0, 0), 0);
        due("7 then", x.count(9), 7);
        for (int k = 0; k < 5; k++) {
            due("sold by b first", x.sell(k % 2, 1 - k % 2, 1) >= 0, k > 0);
        }
        due("sold and sold back, twice", x.count(9), 11);
        while (x.count(9) > 0) {
            x.undo();
        }
        due("nothing is SAID", x.count(7), 0);
        due("both KNOW both by the first ones, that are not kept", x.thing(0, 6) + x.thing(1, 6), 6);
        due("r is b's", x.thing(1, 3), 1);
        refused("none any more", NONE, () -> x.undo());
    }

    /** What is refused leaves the oldest of the 12 as it was; the last of ten THINGS is kept like the first. */
    private void undoOfFull() {
        full("9", 5, 0);
        String[] before = new String[13];
        for (int k = 0; k < 12; k++) {
            before[k] = standing();
            if (k < 5) {
                due("b buys", x.sell(0, 1, 9 - k), 1);
            } else {
                due("c hears", x.whisper(k < 10 ? 0 : 1, 2, k - 5), 1);
            }
        }
        due("12 are kept", x.count(9), 12);
        refused("b has no coin", -3, () -> x.sell(0, 1, 0));
        refused("not its own", NONE, () -> x.say(2, 0));
        refused("it does not KNOW it", NONE, () -> x.whisper(3, 2, 0));
        asked("nothing of it can be done", 0, () -> day("sfq"), 1, 0);
        refused("not its own", -1, () -> cross("q", 3, NONE, 1));
        asked("years are not kept", 0, () -> x.years(5, 40), 0, 0);
        for (int k = 11; k >= 0; k--) {
            due("undone", x.undo(), k);
            due("as it was ahead of " + k, before[k].equals(standing()), true);
        }
        String first = state();
        x.keep(0);
        x.say(0, 9);
        x.sell(0, 1, 8);
        due("a and f are over", cross("qr", 0, 5, 1), 9);
        x.keep(1);
        String second = standing();
        due("as it was under 0", x.again(0) && first.equals(state()), true);
        due("as it was under 1", x.again(1) && second.equals(standing()), true);
    }

    // ---- promises 19 to 23

    private void farAndKeeps() {
        fresh("60,1,59", "p99;p99;ta40*0;ta20*0;tb1*0");
        refused("from bank to bank", 60, () -> x.far(0, 1));
        rule("999*(y=59)");
        due("ashore on ISLET 1", cross("qr", 0, 1, 1), 59);
        due("one yard", x.far(0, 1), 1);
        due("59 yards", x.far(0, 0), 59);
        refused("no bank", NONE, () -> x.far(0, 3));
        refused("no bank", NONE, () -> x.far(0, MIN));
        refused("SAID", NONE, () -> x.keeps(0, 1));
        asked("LEFT of 0", 0, () -> x.keeps(0, 0), 0);
        asked("LEFT of 1", 1, () -> x.keeps(1, 2), 0);
        rule("100");
        asked("LEFT of 0 can't BURST OUT", 0, () -> x.keeps(0, 0), 0);
        asked("LEFT of 1 at its first yard", 0, () -> x.keeps(1, 2), 100);
        fresh("2", "p9;ta40*0");
        rule("0");
        asked("more yards than THE RIVER has", 40, () -> x.keeps(0, 0), 0);
        rule("t+w+y");
        asked("40 at its first yard", 0, () -> x.keeps(0, 0), 40);
        rule("y-29");
        asked("9 is kept back, 10 is not", 39, () -> x.keeps(0, 0), 10);
        refused("not its own", NONE, () -> x.keeps(1, 0));
    }

    private void fewestAndRows() {
        full("40", 10, 0);
        rule("0");
        asked("4 of 10 WORDS", 4, () -> x.fewest(0, 1), 0, 1, 2, 3);
        asked("none of 3", 0, () -> x.rows(0, 1), 0);
        river("41");
        refused("none of 4", -2, () -> x.fewest(0, 1));
        river("30");
        asked("3 of 10 WORDS", 3, () -> x.fewest(0, 1), 0, 1, 2);
        asked("all of 3", 720, () -> x.rows(0, 1), 0);
        river("31");
        asked("3 are too few by one", 0, () -> x.rows(0, 1), 0);
        rule("999");
        asked("who can't set off can't BURST OUT", 0, () -> x.rows(0, 1), 0);
        rule("0");
        river("20");
        asked("all of 2 and of 3", 810, () -> x.rows(0, 1), 0);
        rule("99*(t=9)*(y=9)");
        asked("the last WORD of the first one can't be kept back", 0, () -> x.rows(0, 1), 810);
        refused("by none of 4 or fewer", -2, () -> x.fewest(0, 1));
        refused("who has none", -2, () -> x.fewest(1, 1));
        asked("who has none", 0, () -> x.rows(1, 1), 0);
        fresh("31", "p9;ta10*0;ta10*0;ta10*0;ta11*0");
        rule("999");
        asked("30 WORDS for 31 yards: not without t", 0, () -> x.rows(0, 1), 18);
        rule("0");
        asked("31 WORDS for 31 yards", 18, () -> x.rows(0, 1), 0);
        full("20", 10, 0);
        rule("99*(y=0)*(p=0)");
        x.sheet(2, 10, 9, -1);
        asked("all but the last one first", 729, () -> x.rows(0, 1), 81);
        x.sheet(2, 10, 0, 1);
        asked("all but the first one first", 2, () -> x.fewest(0, 1), 1, 0);
    }

    private void backRows() {
        fresh("20", "p9;p9;ta40*0");
        rule("0");
        asked("just enough for both ways", 2, () -> x.back(0, 1), 1, 0, 0);
        refused("who has none", -2, () -> x.back(1, 1));
        river("21");
        refused("too few by two", -2, () -> x.back(0, 1));
        house("ta2*0");
        asked("just enough by the other one: in the first row, or in the second", 3, () -> x.back(0, 1), 1, 0, 0, 1);
        full("30", 10, 0);
        rule("0");
        asked("3 and 3 of ten", 6, () -> x.back(0, 1), 3, 0, 1, 2, 3, 4, 5);
        river("31");
        refused("3 are too few by one", -2, () -> x.back(0, 1));
        full("29", 15, 0);
        rule("0");
        asked("two of 15 for 29", 4, () -> x.back(0, 1), 2, 0, 1, 2, 3);
        fresh("10", "p9;ta10*1;ta4*0;ta6*0;ta10*0");
        rule("9*p*(w=10)");
        asked("1 and 1", 2, () -> x.back(0, 1), 1, 0, 3);
        rule("10*p*(y=0)");
        asked("q is never the first: 1 and 2", 3, () -> x.back(0, 1), 1, 3, 1, 0);
    }

    private void backByWhatIsLeft() {
        fresh("20", "p9;ta10*0;ta30*0");
        rule("99*(y=0)*(w=30)");
        asked("20 LEFT of r, that was the second", 3, () -> x.back(0, 1), 2, 0, 1, 1);
        fresh("20", "p9;ta10*0;ta35*0;ta7*0;ta7*0;ta7*0");
        rule("99*(w=15)*(t=0)");
        asked("2 and 1, though 1 and 3 come behind", 3, () -> x.back(0, 1), 2, 0, 1, 1);
        fresh("20", "p9;ta35*0;ta10*0;ta7*0;ta7*0;ta7*0");
        rule("99*(w=15)*(t=0)");
        asked("2 and 1, though 1 and 3 come ahead", 3, () -> x.back(0, 1), 2, 1, 0, 0);
        fresh("20", "p9;ta10*0;ta10*0;ta20*0");
        rule("0");
        asked("of as few the least row: it begins with how many", 3, () -> x.back(0, 1), 1, 2, 0, 1);
        fresh("20,5,12", "p9;ta12*0;ta40*0;ta40*0");
        rule("99*(y=12)*(w=40)");
        due("ashore on ISLET 1", cross("qr", 0, NONE, 1), 12);
        refused("on ISLET 1", NONE, () -> x.back(0, 1));
        refused("on ISLET 1", NONE, () -> x.back(0, 0));
    }

    // ---- promise 24

    private void exactSums() {
        full("20", 40, 0);
        asked("all ten", 1, () -> x.exact(0, 400), 1023, 1023);
        asked("each", 10, () -> x.exact(0, 40), 1, 1);
        asked("nine of ten", 10, () -> x.exact(0, 360), 511, 511);
        asked("no sum", 0, () -> x.exact(0, 399), NONE, NONE);
        asked("who has none", 0, () -> x.exact(1, 1), NONE, NONE);
        refused("0 WORDS", NONE, () -> x.exact(0, 0));
        refused("401 WORDS", NONE, () -> x.exact(0, 401));
        refused("MAX WORDS", NONE, () -> x.exact(0, MAX));
        refused("MIN WORDS", NONE, () -> x.exact(0, MIN));
        refused("nobody", NONE, () -> x.exact(6, 40));
        x.say(0, 9);
        asked("SAID is left out", 0, () -> x.exact(0, 400), NONE, NONE);
        asked("nine of nine", 1, () -> x.exact(0, 360), 511, 511);
    }

    private void exactEnds() {
        fresh("20", "p9;ta4*0;ta6*0;ta10*0");
        asked("the greatest is ahead of the smallest", 2, () -> x.exact(0, 10), 4, 3);
        fresh("20", "p9;ta10*0;ta4*0;ta6*0");
        asked("the smallest is ahead of the greatest", 2, () -> x.exact(0, 10), 1, 6);
        fresh("20", "p9;ta5*0;ta5*0;ta5*0;ta5*0");
        asked("of as small ones the least, of as great ones the least", 6, () -> x.exact(0, 10), 3, 3);
        fresh("20", "p9;ta20*0;ta5*0");
        rule("0");
        cross("q", 0, NONE, 1);
        asked("nothing is LEFT of q: it is in sets, too", 2, () -> x.exact(0, 5), 2, 3);
        asked("what was LEFT of q is not", 0, () -> x.exact(0, 20), NONE, NONE);
    }

    // ---- promise 25

    private void chanceOdds() {
        fresh("2", "p20;ta40*0");
        int[] pressure = {0, 11, 12, 13, 19, 20, 21, 999};
        int[] answer = {10000, 10000, 8100, 6400, 400, 100, 0, 0};
        for (int k = 0; k < pressure.length; k++) {
            rule("" + pressure[k]);
            asked("PRESSURE of " + pressure[k], answer[k], () -> chance("q", 0, 1), k < 2 ? NONE : 0);
        }
        rule("12+y");
        asked("the last yard is the likeliest", 7200, () -> chance("q", 0, 1), 1);
        rule("13-y");
        asked("the first yard is the likeliest", 7200, () -> chance("q", 0, 1), 0);
        rule("10+11*(y=1)");
        asked("it can't be kept back at the last", 0, () -> chance("q", 0, 1), 1);
        fresh("5", "p20;ta1*0;ta1*0;ta3*0");
        rule("17");
        asked("cut at each yard: 4000, 1600, 640, 256, 102", 102, () -> chance("qrs", 0, 1), 0);
        rule("19");
        asked("cut at each yard: 2000, 400, 80, 16, 3", 3, () -> chance("qrs", 0, 1), 0);
        rule("20");
        asked("cut to 0: 1000, 100, 10, 1, 0", 0, () -> chance("qrs", 0, 1), 0);
        rule("12+(y=2)+(y=4)");
        asked("of equal ones the first", 4665, () -> chance("qrs", 0, 1), 2);
    }

    private void chanceAsInts() {
        fresh("2", "p99;p9;ta40*0;tb1*0");
        rule(MIN_BY_RULE);
        asked("PRESSURE of MIN", 10000, () -> chance("q", 0, 1), NONE);
        rule(MIN_BY_RULE + "-1");
        asked("PRESSURE of MAX: what is added does not wrap round", 0, () -> chance("q", 0, 1), 0);
        rule("p+t/2");
        refused("no person", -100, () -> chance("q", 2, 1));
        refused("no person", -100, () -> chance("q", MIN, 1));
        refused("no bank", -100, () -> chance("q", 0, -1));
        refused("it is there, ahead of the TEXT", -100, () -> chance("", 0, 0));
        refused("the end for none", -1, () -> chance("", 0, 1));
        refused("not its own", -2, () -> chance("qr", 0, 1));
        refused("told already", -2, () -> chance("qq", 0, 1));
        refused("too few WORDS", -200, () -> chance("r", 1, 1));
        full("2", 1, 0);
        refused("a seventh", -7, () -> chance("qrstuvw", 0, 1));
        asked("six", 10000, () -> chance("qrstuv", 0, 1), NONE);
    }

    // ---- promises 26 and 27

    private void partyBits() {
        x = new WordsUnsaid();
        refused("nobody is there", NONE, () -> x.party(1));
        refused("nobody is told", NONE, () -> x.party(0));
        full("20", 40, 0);
        rule("0");
        int[] wrong = {0, 64, 65, 127, 128, 1 << 30, -1, -63, -64, MIN, MIN + 1, MAX};
        for (int those : wrong) {
            refused("bits of none such: " + those, NONE, () -> x.party(those));
        }
        asked("a goes alone", 1, () -> x.party(1), 0);
        asked("f goes with a", 1, () -> x.party(33), 5, 0);
        refused("f can't alone", -2, () -> x.party(32));
        refused("one of three can't", -2, () -> x.party(35));
        refused("six can't", -2, () -> x.party(63));
        fresh("2", SIX + ";ta2*0;tc2*0;te2*0");
        rule("0");
        asked("each second one has nothing to keep back", 3, () -> x.party(63), 1, 0, 3, 2, 5, 4);
        asked("the first boat stays for one alone", 2, () -> x.party(7), 0, 2, 1);
        asked("two who have nothing go with others", 2, () -> x.party(15), 1, 0, 3, 2);
        asked("not the first two", 2, () -> x.party(45), 3, 5, 0, 2);
        refused("three have too few", -2, () -> x.party(43));
        fresh("4", "p9;p9;ta1*0;ta1*0;tb1*0;tb1*0");
        refused("rows of 3 are too few", -2, () -> x.party(3));
        river("3");
        asked("rows of 3 will do", 1, () -> x.party(3), 1, 0);
        refused("not alone", -2, () -> x.party(1));
    }

    private void poolRows() {
        fresh("30,29", SIX + ";ta10*0;tb10*0;tb10*0;tc20*0;td30*0");
        rule("0");
        asked("the fewest: one of d's", 3, () -> x.pool(0, 1), 1, NONE);
        x.say(3, 4);
        asked("two: with c", 2, () -> x.pool(0, 1), 2, NONE);
        x.say(2, 3);
        asked("three: with b", 1, () -> x.pool(0, 1), 3, NONE);
        asked("three: with a", 0, () -> x.pool(1, 1), 3, NONE);
        refused("with none of the others", -2, () -> x.pool(5, 1));
        x.say(1, 2);
        refused("with none", -2, () -> x.pool(0, 1));
        fresh("20", "p9;p9;ta20*0;tb20*0");
        asked("alone as well", 1, () -> x.pool(0, 1), 1, 1);
        fresh("20", "p9;p9@1;ta20*0;tb20*0");
        rule("0");
        refused("nobody is at its place", -2, () -> x.pool(0, 1));
        refused("it is there", NONE, () -> x.pool(0, 0));
        refused("nobody", NONE, () -> x.pool(2, 1));
        refused("no bank", NONE, () -> x.pool(0, 2));
    }

    // ---- promises 28 to 31

    private void knownPlaces() {
        fresh("9,1,2,3,4,5", "p9;p9;p9@1;ta9*0;tb9*0>c;tc9*0");
        int[] none = {7, 8, -1, 32, MIN, MAX};
        for (int place : none) {
            refused("place " + place, NONE, () -> x.known(place));
        }
        asked("ISLET 4, nobody is there", 0, () -> x.known(6), 0);
        rule("99*(y=5)");
        cross("q", 0, NONE, 1);
        asked("ISLET 4", 1, () -> x.known(6), 1);
        asked("b alone", 2, () -> x.known(0), 2);
        asked("none of both: neither bank's", 6, () -> x.apart(), 2, 4);
        cross("s", 2, NONE, 0);
        asked("ISLET 3", 4, () -> x.known(5), 4);
        asked("nobody is on the far bank", 0, () -> x.known(1), 0);
        asked("nobody is on the far bank", 2, () -> x.apart(), 2, 0);
        asked("the one that it is ABOUT is not at its place", 2, () -> x.sayable(1), 0);
        asked("q is SAID", 0, () -> x.sayable(0), 0);
        int[] nobody = {3, -1, 32, MIN, MAX};
        for (int person : nobody) {
            refused("sayable by " + person, NONE, () -> x.sayable(person));
        }
        full("9", 9, 0);
        asked("ten THINGS for five", 1023, () -> x.sayable(0), 50);
        asked("all are KNOWN by a alone", 1023, () -> x.known(0), 0);
        asked("who has none", 0, () -> x.sayable(5), 0);
    }

    private void sparedOnes() {
        fresh("9", SIX + ";ta9*0>b;tb9*0>a;tc9*0>f");
        x.whisper(1, 2, 1);
        asked("one KNOWS of a, none of b", 1, () -> x.spared(), 0);
        x.whisper(0, 2, 0);
        asked("one of a, one of b, none of f", 5, () -> x.spared(), 0);
        x.whisper(2, 3, 2);
        asked("one of each: the first", 0, () -> x.spared(), 1);
        x.whisper(1, 3, 1);
        asked("two of a: b", 1, () -> x.spared(), 1);
        x.whisper(0, 1, 0);
        asked("b KNOWS of itself: it is counted", 5, () -> x.spared(), 1);
        fresh("9", "p9;p9;ta9*0>b;tb9*0>a");
        x.whisper(0, 1, 0);
        asked("none of a, one of b", 0, () -> x.spared(), 0);
        x = new WordsUnsaid();
        refused("nobody", -2, () -> x.spared());
    }

    // ---- promises 32 to 34

    private void ashoreIslets() {
        full("6,1,2,3,4,5", 1, 0);
        rule("99*(y=5)");
        asked("6 of 1 WORD: none of 3 sets off", 0, () -> x.ashore(0, 4));
        rule("99*(y=2)");
        river("4,1,2");
        asked("3 of 1 WORD are too few by one", 0, () -> x.ashore(0, 1));
        asked("3 of 1 WORD are too few by one", 0, () -> x.about(0, 1));
        river("3,1,2");
        asked("3 of 1 WORD", 720, () -> x.ashore(0, 1), 0, 1, 2);
        asked("not on ISLET 0", 0, () -> x.ashore(0, 0));
        int[] none = {2, 5, -1, 32, MIN, MAX};
        for (int k : none) {
            refused("ashore: ISLET " + k, NONE, () -> x.ashore(0, k));
            refused("about: ISLET " + k, NONE, () -> x.about(0, k));
        }
        int[] nobody = {6, -1, 32, MIN, MAX};
        for (int person : nobody) {
            refused("ashore: person " + person, NONE, () -> x.ashore(person, 0));
            refused("about: person " + person, NONE, () -> x.about(person, 0));
        }
        asked("who has none", 0, () -> x.ashore(5, 1));
        asked("who has none", 0, () -> x.about(5, 1));
        rule("99*(y=0)");
        asked("at once is on no ISLET", 0, () -> x.ashore(0, 0));
        full("3,1", 3, 0);
        rule("99*(y=2)");
        asked("each row: the shortest is the least", 820, () -> x.ashore(0, 0), 0);
        rule("0");
        asked("none: an empty ROW", 0, () -> x.ashore(0, 0));
        due("an empty ROW", x.count(10), 0);
        dueThrow("an empty ROW", () -> x.row(0));
        rule("99*(y=1)");
        cross("q", 0, NONE, 1);
        refused("at no bank", NONE, () -> x.ashore(0, 0));
        refused("at no bank", NONE, () -> x.about(0, 0));
        fresh("3,1", "p9;ta9*0");
        rule("99*(y=1)");
        refused("THE RIVER has one", NONE, () -> x.ashore(0, 1));
        river("3");
        refused("THE RIVER has none", NONE, () -> x.ashore(0, 0));
    }

    private void aboutRows() {
        full("3,1,2", 1, 0);
        rule("99*(y=2)");
        asked("each of ten, as the third of 72", 1023, () -> x.about(0, 1), 72, 72, 72, 72, 72, 72, 72, 72, 72, 72);
        asked("none on ISLET 0", 0, () -> x.about(0, 0));
        due("an empty ROW", x.count(10), 0);
        x.say(0, 0);
        asked("each of nine, as the third of 56", 1022, () -> x.about(0, 1), 56, 56, 56, 56, 56, 56, 56, 56, 56);
        rule("99*(y=2)*(p=9)");
        x.sheet(2, 10, 0, 1);
        asked("the last alone", 512, () -> x.about(0, 1), 56);
        fresh("3,1,2", "p9@1;ta2*0;ta1*9");
        rule("p*(y=2)+1");
        asked("home: r behind q, not q behind r", 2, () -> x.about(0, 0), 1);
    }

    private void bargainOffers() {
        fresh("5", "p9;p9;p9@1;ta5*0;ta1*0;ta26*0;tb1*0>a");
        rule("0");
        asked("5 for 1", 0, () -> x.bargain(0, 1), 1, 5);
        refused("all are ABOUT the buyer", -2, () -> x.bargain(1, 0));
        int[] none = {3, -1, 32, MIN, MAX};
        for (int k : none) {
            refused("person " + k, NONE, () -> x.bargain(k, 0));
            refused("other one " + k, NONE, () -> x.bargain(0, k));
        }
        refused("like ones", NONE, () -> x.bargain(1, 1));
        refused("not at one place", NONE, () -> x.bargain(2, 1));
        cross("q", 0, NONE, 1);
        refused("c has nothing", -2, () -> x.bargain(2, 0));
        asked("nothing is LEFT of q: 1 for 1", 1, () -> x.bargain(0, 2), 1, 1);
        x.say(0, 1);
        refused("26 WORDS for 6 coins alone", -2, () -> x.bargain(0, 2));
        fresh("9", "p9;p9;ta4*0;ta8*0;ta12*0;ta13*0");
        asked("13 for 3 are more than 4 for 1, 8 for 2 and 12 for 3", 3, () -> x.bargain(0, 1), 3, 13);
        fresh("9", "p9;p9;ta4*0;ta8*0;ta12*0;ta11*0");
        asked("4 for 1, 8 for 2, 12 for 3: the first", 0, () -> x.bargain(0, 1), 1, 4);
    }

    // ---- promises 35 to 39

    private void yearsSeeds() {
        int[] seeds = {MIN, MAX, -1, 0, 65535, 65536, -65536};
        for (int seed : seeds) {
            full("2,1", 40, 0);
            rule("99*(y=1)");
            int[] due = toAndFro(seed);
            asked("years by " + seed, due[0], () -> x.years(seed, 40), due[1], due[2]);
        }
        refused("0 CROSSINGS", NONE, () -> x.years(1, 0));
        refused("41 CROSSINGS", NONE, () -> x.years(1, 41));
        refused("MIN CROSSINGS", NONE, () -> x.years(1, MIN));
        refused("MAX CROSSINGS", NONE, () -> x.years(1, MAX));
        x = new WordsUnsaid();
        refused("nobody is there", -2, () -> x.years(1, 40));
        refused("NONE ahead of it", NONE, () -> x.years(1, 41));
    }

    /** From each bank a BURSTS OUT at the ISLET; from there to the far bank it is one yard, by which it comes over. */
    private static int[] toAndFro(int seed) {
        int[] r = {seed};
        boolean onIslet = false;
        int said = 0;
        int over = 0;
        for (int k = 0; k < 40; k++) {
            int person = draw(r, 6);
            int thing = 1 << draw(r, 10);
            if (person == 0 && (said & thing) == 0) {
                over += onIslet ? 1 : 0;
                said |= onIslet ? 0 : thing;
                onIslet = !onIslet;
            }
        }
        return new int[] {Integer.bitCount(said), over, said};
    }

    private static int draw(int[] r, int n) {
        r[0] = r[0] * 1103515245 + 12345;
        return (int) ((r[0] & 0xffffffffL) / 65536 % n);
    }

    private void keptNumbers() {
        x = new WordsUnsaid();
        int[] none = {2, -1, 31, 32, 33, MIN, MAX};
        for (int k : none) {
            due("keep(" + k + ")", x.keep(k), false);
            due("again(" + k + ")", x.again(k), false);
        }
        due("nothing is kept under 1", x.again(1), false);
        due("kept under 1", x.keep(1), true);
        due("nothing is kept under 0", x.again(0), false);
        due("an empty house is none that came", house(""), 0);
        due("kept under 1 still", x.again(1), true);
        due("PEOPLE came", house("p9"), 1);
        due("refused", x.again(1), false);
        x.keep(0);
        x.keep(1);
        refused("a wrong river", -1, () -> river("1"));
        due("0 still", x.again(0), true);
        due("the same river once more", river("20"), 0);
        due("refused", x.again(0), false);
        due("refused", x.again(1), false);
        int[] others = {12, 13, -1, MIN, MAX};
        for (int k : others) {
            refused("count(" + k + ")", NONE, () -> x.count(k));
        }
        dueThrow("row(0) of none", () -> x.row(0));
        dueThrow("row(MAX) of none", () -> x.row(MAX));
        full("9", 9, 0);
        int[] counts = {6, 10, 0, 9, 63, 0, 0, 0, 90, 0};
        for (int k = 0; k < counts.length; k++) {
            due("full: count(" + k + ")", x.count(k), counts[k]);
        }
        x.say(0, 9);
        due("the last is SAID", x.count(7), 512);
        due("its WORDS are LEFT still", x.count(8), 90);
        rule("0");
        cross("q", 0, 5, 1);
        due("near", x.count(4), 30);
        due("far", x.count(5), 33);
        due("WORDS LEFT", x.count(8), 81);
    }

    /** "NONE is asked ahead of other answers below 0." */
    private void noneAhead() {
        fresh("9,4", "p9;p9;p9@1;ta9*0>b;ta30*0;tb9*0>a;tc9*0");
        refused("say: not its own, ABOUT one who is there", NONE, () -> x.say(0, 2));
        refused("whisper: like ones", NONE, () -> x.whisper(2, 2, 3));
        refused("whisper: not KNOWN, not at one place", NONE, () -> x.whisper(0, 2, 3));
        refused("sell: like ones", NONE, () -> x.sell(0, 0, 0));
        refused("sell: not its own, not at one place", NONE, () -> x.sell(0, 2, 3));
        refused("sell: not its own, too few coins", NONE, () -> x.sell(1, 0, 1));
        refused("fewest: it is there", NONE, () -> x.fewest(2, 1));
        refused("back: it is there", NONE, () -> x.back(2, 1));
        refused("pool: it is there", NONE, () -> x.pool(2, 1));
        refused("pool: nobody is with c", -2, () -> x.pool(2, 0));
        refused("party: not all at one bank", NONE, () -> x.party(7));
        refused("bargain: not at one place", NONE, () -> x.bargain(0, 2));
        refused("sheet: another kind, n below 0", NONE, () -> x.sheet(9, -1, 0, 0));
    }

    /** As many calls as one object is used for. */
    private void fiveHundredAndTwelve() {
        x = new WordsUnsaid();
        x.sign('2' << 24);
        x.end(1);
        x.river();
        x.sign('p' << 24 | '9' << 16 | ';' << 8 | 't');
        x.sign('a' << 24 | '4' << 16 | '0' << 8 | '*');
        x.sign('0' << 24);
        x.end(9);
        x.house();
        for (int k = 9; k <= 511; k++) {
            x.years(k, 40);
        }
        due("the last", x.keeps(0, 0), 20);
    }
}
