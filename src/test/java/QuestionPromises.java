/** Promises 19 to 35: what one can cross with, parties, what is known, islets, gossip, years. */
public final class QuestionPromises extends Checks {
    private static final String RIVER = "20,5,12";
    /** a has q (8 WORDS, PRESS 2) and r (15, 1, ABOUT b); b has s (30, 3); c, on the far bank, has t (25, 0, ABOUT a). */
    private static final String HOUSE = "p10;p6;p20@1;ta8*2;ta15*1>b;tb30*3;tc25*0>a";

    public static void main(String[] args) {
        QuestionPromises t = new QuestionPromises();
        t.far();
        t.keeps();
        t.fewest();
        t.fewestOfMany();
        t.rows();
        t.back();
        t.backWithWhatIsLeft();
        t.exact();
        t.chance();
        t.chanceFaults();
        t.party();
        t.partyOfSix();
        t.pool();
        t.known();
        t.sayable();
        t.apart();
        t.spared();
        t.ashore();
        t.about();
        t.bargain();
        t.years();
        t.yearsDrawn();
        t.finish("QuestionPromises");
    }

    private void start() {
        fresh(RIVER, HOUSE);
    }

    /** b is on islet 0 then, and s is SAID. */
    private void putAshore() {
        start();
        due("b bursts out", cross("s", 1, NONE, 1), 8);
    }

    private void others(String what, java.util.function.IntBinaryOperator call) {
        refused(what + ": nobody", NONE, () -> call.applyAsInt(3, 1));
        refused(what + ": nobody", NONE, () -> call.applyAsInt(-1, 1));
        refused(what + ": nobody", NONE, () -> call.applyAsInt(32, 1));
        refused(what + ": no bank", NONE, () -> call.applyAsInt(0, 2));
        refused(what + ": no bank", NONE, () -> call.applyAsInt(0, -1));
        refused(what + ": it is there", NONE, () -> call.applyAsInt(0, 0));
        refused(what + ": it is there", NONE, () -> call.applyAsInt(2, 1));
    }

    private void far() {
        start();
        refused("over", 20, () -> x.far(0, 1));
        due("and back", x.far(2, 0), 20);
        others("far", x::far);
        putAshore();
        due("from islet 0", x.far(1, 0), 5);
        due("from islet 0", x.far(1, 1), 15);
    }

    private void keeps() {
        start();
        asked("all of q", 8, () -> x.keeps(0, 0), 0);
        asked("s till 3 + 8 / 2", 8, () -> x.keeps(1, 2), 7);
        asked("all of t", 25, () -> x.keeps(2, 3), 0);
        refused("not its own", NONE, () -> x.keeps(0, 2));
        refused("nobody", NONE, () -> x.keeps(3, 0));
        refused("nobody", NONE, () -> x.keeps(-1, 0));
        refused("no thing", NONE, () -> x.keeps(0, 4));
        refused("no thing", NONE, () -> x.keeps(0, -1));
        x.say(0, 0);
        refused("SAID", NONE, () -> x.keeps(0, 0));
        rule("(w=10)*(9+n+5*i+9*o)*9+t");
        asked("at 10 WORDS LEFT, alone", 5, () -> x.keeps(0, 1), 95);
        rule("9*y");
        asked("yards are counted from where it is", 2, () -> x.keeps(0, 1), 18);
        rule("0");
        cross("s", 0, 1, 1);
        x.sell(1, 0, 2);
        due("10 of s are left", x.thing(2, 1), 10);
        due("a buys s", x.thing(2, 3), 0);
        asked("what is LEFT", 10, () -> x.keeps(0, 2), 0);
        fresh("9", "p9;ta9*0");
        rule("0");
        cross("q", 0, NONE, 1);
        asked("nothing is LEFT", 0, () -> x.keeps(0, 0), 0);
        rule("99");
        asked("nothing is LEFT to burst out with", 0, () -> x.keeps(0, 0), 0);
        fresh("9", "p9;ta40*0");
        rule("t>38");
        asked("40", 40, () -> x.keeps(0, 0), 0);
        rule("99*(t>38)");
        asked("39", 39, () -> x.keeps(0, 0), 99);
        rule("-5");
        asked("below 0 is not more", 40, () -> x.keeps(0, 0), 0);
        putAshore();
        refused("SAID by bursting out", NONE, () -> x.keeps(1, 2));
    }

    private void fewest() {
        start();
        asked("q and r", 2, () -> x.fewest(0, 1), 0, 1);
        refused("s bursts out", -2, () -> x.fewest(1, 1));
        asked("t", 1, () -> x.fewest(2, 0), 3);
        others("fewest", x::fewest);
        x.say(0, 1);
        x.say(2, 3);
        refused("SAID", -2, () -> x.fewest(2, 0));
        fresh("20,5", "p9;ta20*0;ta9*0;ta4*0;ta19*0");
        rule("99*(y=5)*(w=15)");
        asked("the least of two: q not first", 2, () -> x.fewest(0, 1), 1, 0);
        rule("99*(y=5)*(w=15)+99*(t=0)*(y=9)");
        asked("the least of two: r not first", 2, () -> x.fewest(0, 1), 2, 0);
        fresh("20,5,6", "p9;ta40*9;ta10*1");
        rule("99*(y=5)");
        cross("q", 0, NONE, 1);
        rule("p");
        refused("too few WORDS on islet 0", -2, () -> x.fewest(0, 1));
        asked("enough to the near bank", 1, () -> x.fewest(0, 0), 1);
    }

    private void fewestOfMany() {
        fresh("40", "p9;ta10*0;ta10*0;ta10*0;ta10*0;ta10*0;ta9*0;ta9*0");
        rule("0");
        asked("four", 4, () -> x.fewest(0, 1), 0, 1, 2, 3);
        rule("99*(y=0)*(i=0)*(p=0)");
        refused("none", -2, () -> x.fewest(0, 1));
        x.sheet(2, 7, 0, 1);
        asked("one that presses first", 4, () -> x.fewest(0, 1), 1, 0, 2, 3);
        x.sheet(2, 7, 0, 0);
        rule("99*(y=30)*(p=0)");
        x.sheet(2, 4, 0, 0);
        refused("all have 0", -2, () -> x.fewest(0, 1));
        fresh("41", "p9;ta10*0;ta10*0;ta10*0;ta10*0;ta10*0;ta9*0;ta9*0");
        rule("0");
        refused("not by five", -2, () -> x.fewest(0, 1));
    }

    private void rows() {
        start();
        asked("q r and r q", 2, () -> x.rows(0, 1), 0);
        asked("s bursts out", 0, () -> x.rows(1, 1), 1);
        asked("t", 1, () -> x.rows(2, 0), 0);
        others("rows", x::rows);
        fresh("20", "p9;ta20*0;ta5*9;ta20*1");
        rule("p+t/20");
        asked("all but r alone come", 14, () -> x.rows(0, 1), 0);
        rule("p+9*(y=4)");
        asked("r and s burst out, if they are first", 5, () -> x.rows(0, 1), 9);
        x.say(0, 1);
        asked("without r", 2, () -> x.rows(0, 1), 2);
        fresh("2", "p9;ta2*0;ta9*0;ta9*0");
        cross("q", 0, NONE, 1);
        asked("nothing is LEFT of q", 4, () -> x.rows(0, 0), 0);
        fresh("20", "p9;ta9*0;ta9*0");
        asked("too few WORDS", 0, () -> x.rows(0, 1), 0);
        fresh("60", "p99;ta6*0;ta6*0;ta6*0;ta6*0;ta6*0;ta6*0");
        asked("six of 6 are not told", 0, () -> x.rows(0, 1), 0);
        fresh("2", "p99;ta6*0;ta6*0;ta6*0;ta6*0;ta6*0;ta6*0;ta6*0;ta6*0;ta6*0");
        house("ta9*0");
        asked("all rows of ten", 10 + 90 + 720, () -> x.rows(0, 1), 0);
        rule("999");
        asked("all rows of ten burst out", 0, () -> x.rows(0, 1), 820);
        putAshore();
        house("tb15*0;tb5*0;tb10*0");
        asked("from islet 0 to the far bank: t bursts out, if it is first", 8, () -> x.rows(1, 1), 5);
        asked("from islet 0 to the near bank", 15, () -> x.rows(1, 0), 0);
    }

    private void back() {
        start();
        refused("too few for the way back", -2, () -> x.back(0, 1));
        refused("25 for 40 yards", -2, () -> x.back(2, 0));
        others("back", x::back);
        fresh("20,5", "p99;ta40*0");
        asked("40 for there and back", 2, () -> x.back(0, 1), 1, 0, 0);
        fresh("20,5", "p99@1;ta39*0;ta1*0");
        asked("39 and 1", 3, () -> x.back(0, 0), 1, 0, 0, 1);
        fresh("20,5", "p99;ta10*0;ta10*0;ta20*0;ta20*0");
        asked("the two of 20", 2, () -> x.back(0, 1), 1, 2, 3);
        x.say(0, 3);
        asked("three: first by one", 3, () -> x.back(0, 1), 1, 2, 0, 1);
        fresh("20,5", "p99;ta7*0;ta7*0;ta7*0;ta7*0;ta7*0;ta7*0");
        asked("three and three", 6, () -> x.back(0, 1), 3, 0, 1, 2, 3, 4, 5);
        fresh("21,5", "p99;ta7*0;ta7*0;ta7*0;ta7*0;ta7*0;ta7*0");
        asked("three and three", 6, () -> x.back(0, 1), 3, 0, 1, 2, 3, 4, 5);
        fresh("22,5", "p99;ta7*0;ta7*0;ta7*0;ta7*0;ta7*0;ta7*0;ta7*0;ta7*0");
        refused("not by three", -2, () -> x.back(0, 1));
        putAshore();
        house("tb40*0");
        refused("on an islet", NONE, () -> x.back(1, 0));
        refused("on an islet", NONE, () -> x.back(1, 1));
    }

    private void backWithWhatIsLeft() {
        fresh("20", "p9;ta40*0;ta30*0;ta20*0");
        rule("99*(w=20)*(t=0)+99*(w=15)*(y=5)");
        refused("20 LEFT bursts out at the first", -2, () -> {
            x.say(0, 1);
            int answer = x.back(0, 1);
            x.undo();
            return answer;
        });
        asked("q over, r back", 2, () -> x.back(0, 1), 1, 0, 1);
        fresh("10", "p9;ta15*0;ta10*0");
        rule("99*(w<6)*(y=9)");
        asked("r can't be the last, q can with what is LEFT", 3, () -> x.back(0, 1), 1, 0, 0, 1);
    }

    private void exact() {
        start();
        asked("both of a", 1, () -> x.exact(0, 23), 3, 3);
        asked("q", 1, () -> x.exact(0, 8), 1, 1);
        asked("none", 0, () -> x.exact(0, 9), NONE, NONE);
        asked("not b's", 0, () -> x.exact(0, 30), NONE, NONE);
        refused("0", NONE, () -> x.exact(0, 0));
        refused("401", NONE, () -> x.exact(0, 401));
        refused("-1", NONE, () -> x.exact(0, -1));
        refused("nobody", NONE, () -> x.exact(3, 8));
        refused("nobody", NONE, () -> x.exact(-1, 8));
        fresh("20", "p9;ta4*0;ta6*0;ta5*0;ta5*0;ta1*0;ta9*0;ta10*0;ta2*0;ta3*0");
        house("ta40*0");
        asked("w; q r, s t, u v; q s u, q t u, r u y, s x y, t x y; q u x y", 10, () -> x.exact(0, 10), 64, 401);
        asked("s, t; q u, x y: the least of both", 4, () -> x.exact(0, 5), 4, 17);
        asked("one word", 1, () -> x.exact(0, 1), 16, 16);
        asked("all of them", 1, () -> x.exact(0, 85), 1023, 1023);
        asked("400", 0, () -> x.exact(0, 400), NONE, NONE);
        x.say(0, 6);
        asked("SAID is left out", 9, () -> x.exact(0, 10), 3, 401);
    }

    private void chance() {
        start();
        asked("q r", 20, () -> chance("qr", 0, 1), 18);
        due("the text is gone", x.count(11), 0);
        rule("0");
        asked("by none it can", 10000, () -> chance("qr", 0, 1), NONE);
        x.hold(0, 9);
        asked("9 is not more than 9", 10000, () -> chance("qr", 0, 1), NONE);
        rule("(y=3)+(y=5)");
        asked("nine of ten, twice", 8100, () -> chance("qr", 0, 1), 3);
        rule("(y=3)+2*(y=5)");
        asked("nine of ten, then eight", 7200, () -> chance("qr", 0, 1), 5);
        rule("10*(y=7)");
        asked("one yard it can't", 0, () -> chance("qr", 0, 1), 7);
        rule("9*(y=7)");
        asked("one of ten", 1000, () -> chance("qr", 0, 1), 7);
        rule("-999");
        asked("far below 0", 10000, () -> chance("qr", 0, 1), NONE);
        rule("999");
        asked("far above", 0, () -> chance("qr", 0, 1), 0);
        rule("8*(w=5)*(p=1)");
        asked("by what is LEFT of r", 2000, () -> chance("qr", 0, 1), 18);
        asked("r first", 2000, () -> chance("rq", 0, 1), 10);
        rule("1-y*0");
        asked("cut at each yard", 1212, () -> chance("qr", 0, 1), 0);
        fresh("2", "p9;ta40*0");
        rule("3");
        asked("two yards", 4900, () -> chance("q", 0, 1), 0);
    }

    private void chanceFaults() {
        start();
        refused("no person", -100, () -> chance("qr", 3, 1));
        refused("no person", -100, () -> chance("qr", -1, 1));
        refused("it is there", -100, () -> chance("qr", 0, 0));
        refused("no bank", -100, () -> chance("", 0, 2));
        refused("nothing told", -1, () -> chance("", 0, 1));
        refused("not its own", -2, () -> chance("qs", 0, 1));
        refused("told already", -2, () -> chance("qq", 0, 1));
        refused("too few WORDS", -200, () -> chance("r", 0, 1));
        feed("r");
        x.chance(0, 0);
        due("the text is gone with -100", x.count(11), 0);
        feed("r");
        x.chance(0, 1);
        due("the text is gone with -200", x.count(11), 0);
    }

    private void party() {
        start();
        asked("a alone", 1, () -> x.party(1), 0);
        asked("a with b", 1, () -> x.party(3), 1, 0);
        asked("c alone", 1, () -> x.party(4), 2);
        refused("b can't", -2, () -> x.party(2));
        refused("not at one bank", NONE, () -> x.party(5));
        refused("not at one bank", NONE, () -> x.party(7));
        refused("nobody", NONE, () -> x.party(0));
        refused("none such", NONE, () -> x.party(8));
        refused("none such", NONE, () -> x.party(9));
        refused("none such", NONE, () -> x.party(64));
        refused("none such", NONE, () -> x.party(-1));
        refused("none such", NONE, () -> x.party(Integer.MIN_VALUE + 1));
        fresh("20,5", "p9@1;p9@1;p9;ta19*0;tb1*0");
        refused("19 WORDS for 20 yards", -2, () -> x.party(1));
        asked("from the far bank by two", 1, () -> x.party(3), 1, 0);
        putAshore();
        refused("on an islet", NONE, () -> x.party(2));
        refused("on an islet, too", NONE, () -> x.party(3));
        x = new WordsUnsaid();
        refused("nobody is there", NONE, () -> x.party(1));
    }

    private void partyOfSix() {
        fresh("20", "p9;p9;p9;p9;p9;p9;ta40*0;tb40*0;tc40*0;td40*0;te40*0;tf40*0");
        asked("three boats, the least row", 3, () -> x.party(63), 1, 0, 3, 2, 5, 4);
        asked("three of them", 2, () -> x.party(21), 0, 4, 2);
        asked("two of them", 1, () -> x.party(36), 5, 2);
        rule("99*(n=2)");
        asked("all alone", 6, () -> x.party(63), 0, 1, 2, 3, 4, 5);
        rule("99*(n=1)");
        asked("all by two", 3, () -> x.party(63), 1, 0, 3, 2, 5, 4);
        refused("three can't by two", -2, () -> x.party(7));
        fresh("20", "p9;p9;p9;p9;ta40*0>b;tb40*0>a;tc40*0;td40*0");
        rule("99*o");
        asked("c's will do", 2, () -> x.party(15), 2, 3, 0, 1);
        fresh("20", "p9;p9;p9;p9;ta20*0;tb10*0;tc9*0;td9*0");
        rule("0");
        asked("b goes with a", 1, () -> x.party(3), 1, 0);
        refused("b can't alone", -2, () -> x.party(2));
        refused("b and c can't", -2, () -> x.party(7));
    }

    private void pool() {
        start();
        asked("b with a", 0, () -> x.pool(1, 1), 2, NONE);
        asked("a with b", 1, () -> x.pool(0, 1), 2, 2);
        refused("c with none", -2, () -> x.pool(2, 0));
        others("pool", x::pool);
        fresh("20", "p9;p9;p9;p9@1;ta9*0;ta9*0;ta9*0;tb11*0;tc11*0;td40*0");
        rule("0");
        asked("of equal ones the first", 1, () -> x.pool(0, 1), 2, 3);
        asked("of equal ones the first", 0, () -> x.pool(2, 1), 2, NONE);
        x.say(1, 3);
        asked("b's is SAID", 2, () -> x.pool(0, 1), 2, 3);
        asked("b goes with a by three", 0, () -> x.pool(1, 1), 3, NONE);
        x.undo();
        rule("99*(n=2)");
        refused("none by two", -2, () -> x.pool(0, 1));
        house("p9@0;te20*0");
        rule("0");
        asked("the fewest", 4, () -> x.pool(0, 1), 1, 3);
        fresh("20", "p9;p9;ta5*0;ta5*0;tb5*0;tb5*0");
        refused("not by four", -2, () -> x.pool(0, 1));
        fresh("20,5,12", "p9;p9;p9;ta40*9;tb10*0;tc15*0;ta8*0;ta8*0");
        rule("p+9*(y=6)");
        due("a and b are put ashore", cross("q", 0, 1, 1), 6);
        asked("on islet 0, by two", 1, () -> x.pool(0, 1), 2, 2);
        asked("on islet 0, to the near bank", 1, () -> x.pool(0, 0), 1, 1);
    }

    private void known() {
        start();
        asked("near", 7, () -> x.known(0), 0);
        asked("far", 8, () -> x.known(1), 8);
        asked("islet 0", 0, () -> x.known(2), 0);
        asked("islet 1", 0, () -> x.known(3), 0);
        refused("no islet", NONE, () -> x.known(4));
        refused("no place", NONE, () -> x.known(-1));
        x.say(0, 0);
        x.whisper(0, 1, 1);
        asked("q and r are KNOWN to both", 7, () -> x.known(0), 3);
        cross("s", 1, NONE, 1);
        asked("islet 0", 7, () -> x.known(2), 7);
        asked("a alone", 3, () -> x.known(0), 3);
        x = new WordsUnsaid();
        asked("nobody", 0, () -> x.known(0), 0);
        refused("no islets", NONE, () -> x.known(2));
    }

    private void sayable() {
        start();
        asked("q, and b would KNOW it", 1, () -> x.sayable(0), 1);
        asked("s, and a would KNOW it", 4, () -> x.sayable(1), 1);
        asked("t, and nobody is there", 8, () -> x.sayable(2), 0);
        refused("nobody", NONE, () -> x.sayable(3));
        refused("nobody", NONE, () -> x.sayable(-1));
        x.whisper(0, 1, 0);
        asked("b KNOWS q", 1, () -> x.sayable(0), 0);
        x.say(0, 0);
        asked("q is SAID, b is there", 0, () -> x.sayable(0), 0);
        cross("s", 1, NONE, 1);
        asked("b is gone", 2, () -> x.sayable(0), 0);
        fresh("9", "p9;p9;p9;ta9*0;ta9*0;ta9*0>b");
        asked("two things for two", 3, () -> x.sayable(0), 4);
    }

    private void apart() {
        start();
        asked("all are apart", 15, () -> x.apart(), 7, 8);
        fresh("9,1", "p9;p9@1;p9;ta9*0;ta9*1;tb9*0;tc1*9");
        x.say(0, 0);
        rule("0");
        cross("r", 0, NONE, 1);
        asked("c KNOWS q, and a, on the far bank", 14, () -> x.apart(), 8, 6);
        x.undo();
        rule("p+9*(y=1)");
        cross("r", 0, NONE, 1);
        asked("islets are no banks", 13, () -> x.apart(), 9, 4);
        x = new WordsUnsaid();
        asked("nothing", 0, () -> x.apart(), 0, 0);
    }

    private void spared() {
        start();
        asked("a and b, by none: the first", 0, () -> x.spared(), 0);
        house("p9@1");
        x.say(2, 3);
        asked("d KNOWS a thing ABOUT a: b", 1, () -> x.spared(), 0);
        x.whisper(0, 1, 1);
        asked("one each: the first", 0, () -> x.spared(), 1);
        fresh("9", "p9;p9;p9;ta9*0>c;tb9*0>c;tc9*0");
        asked("c alone", 2, () -> x.spared(), 0);
        x.whisper(0, 1, 0);
        x.whisper(1, 0, 1);
        x.whisper(1, 2, 1);
        asked("each is counted for each THING, c too", 2, () -> x.spared(), 3);
        x.sell(0, 1, 0);
        asked("who sold it is counted", 2, () -> x.spared(), 3);
        fresh("9", "p9;p9;ta9*0");
        refused("none is ABOUT anybody", -2, () -> x.spared());
        x = new WordsUnsaid();
        refused("nothing", -2, () -> x.spared());
    }

    private void ashore() {
        start();
        asked("s, onto islet 0", 1, () -> x.ashore(1, 0), 2);
        asked("not onto islet 1", 0, () -> x.ashore(1, 1));
        asked("a does not burst out", 0, () -> x.ashore(0, 0));
        refused("no islet", NONE, () -> x.ashore(0, 2));
        refused("no islet", NONE, () -> x.ashore(0, -1));
        refused("nobody", NONE, () -> x.ashore(3, 0));
        refused("nobody", NONE, () -> x.ashore(-1, 0));
        house("tb1*0;tb40*9");
        asked("s, su, sv, suv, svu, us, usv", 7, () -> x.ashore(1, 0), 2);
        rule("p+9*(y=12)");
        asked("s, though behind u, onto islet 1 just then", 7, () -> x.ashore(1, 1), 2);
        fresh("20,5,12", "p9@1;ta5*0;ta30*0;ta30*1");
        rule("9*p+1*(y=8)");
        asked("from the far bank; q s ahead of s", 7, () -> x.ashore(0, 1), 0, 2);
        asked("from the far bank", 0, () -> x.ashore(0, 0));
        putAshore();
        refused("on an islet", NONE, () -> x.ashore(1, 0));
    }

    private void about() {
        start();
        asked("s, in one row", 4, () -> x.about(1, 0), 1);
        asked("not on islet 1", 0, () -> x.about(1, 1));
        asked("a does not burst out", 0, () -> x.about(0, 0));
        refused("no islet", NONE, () -> x.about(0, 2));
        refused("no islet", NONE, () -> x.about(0, -1));
        refused("nobody", NONE, () -> x.about(3, 0));
        refused("nobody", NONE, () -> x.about(-1, 0));
        house("tb1*0;tb40*9");
        asked("s in seven rows", 4, () -> x.about(1, 0), 7);
        rule("99*(y=8)");
        asked("s and v can be had at 8 yards", 36, () -> x.about(1, 0), 7, 7);
        putAshore();
        refused("on an islet", NONE, () -> x.about(1, 0));
    }

    private void bargain() {
        start();
        asked("q for 2", 0, () -> x.bargain(0, 1), 2, 8);
        refused("6 coins", -2, () -> x.bargain(1, 0));
        refused("not at one place", NONE, () -> x.bargain(0, 2));
        refused("like ones", NONE, () -> x.bargain(0, 0));
        refused("nobody", NONE, () -> x.bargain(0, 3));
        refused("nobody", NONE, () -> x.bargain(3, 0));
        refused("nobody", NONE, () -> x.bargain(-1, 0));
        fresh("9", "p9;p9;p9@1;ta6*0;ta9*0;ta14*0;ta24*0;ta19*0;ta10*0>b");
        asked("24 for 5 are more than 19 for 4", 3, () -> x.bargain(0, 1), 5, 24);
        x.sell(0, 1, 0);
        asked("19 for 4 are not paid", 2, () -> x.bargain(0, 1), 3, 14);
        asked("b has q: 6 for 2", 0, () -> x.bargain(1, 0), 2, 6);
        fresh("9", "p9;p9;ta15*0;ta5*0;ta10*0");
        asked("of equal ones the first", 0, () -> x.bargain(0, 1), 3, 15);
        x.say(0, 0);
        asked("SAID", 1, () -> x.bargain(0, 1), 1, 5);
    }

    private static int draw(int[] r, int n) {
        r[0] = r[0] * 1103515245 + 12345;
        return (int) ((r[0] & 0xffffffffL) / 65536 % n);
    }

    private void years() {
        x = new WordsUnsaid();
        refused("nobody", -2, () -> x.years(1, 1));
        refused("0", NONE, () -> x.years(1, 0));
        refused("41", NONE, () -> x.years(1, 41));
        refused("-1", NONE, () -> x.years(1, -1));
        fresh("2", "p9");
        asked("nothing to say", 0, () -> x.years(7, 40), 0, 0);
        fresh("2", "p9;ta40*0;ta40*0;ta40*0;ta40*0;ta40*0;ta40*0;ta40*0;ta40*0;ta40*0");
        house("ta40*0");
        rule("0");
        asked("each comes over", 0, () -> x.years(7, 40), 40, 0);
        asked("one", 0, () -> x.years(7, 1), 1, 0);
        rule("99");
        int[] r = {7};
        int said = 0;
        for (int k = 0; k < 12; k++) {
            draw(r, 1);
            said |= 1 << draw(r, 10);
        }
        asked("each bursts out once", Integer.bitCount(said), () -> x.years(7, 12), 0, said);
        x.say(0, 3);
        asked("what was SAID is told, too", Integer.bitCount(said & ~8), () -> x.years(7, 12), 0, said | 8);
        due("years can't be undone", x.undo(), 0);
    }

    /** Played with cross() by the same DRAWS. */
    private void yearsDrawn() {
        for (int seed = -3; seed < 40; seed++) {
            fresh("9,4,6", "p9;p7@1;p3;ta40*0;ta12*3;tb40*1>a;tb20*6;tc40*2;tc9*0;ta30*8");
            rule("p+t/2+y/5");
            int n = 1 + Math.abs(seed);
            String before = state();
            int burst = x.years(seed, n);
            int over = x.row(0);
            int said = x.row(1);
            due("years changes nothing", before.equals(state()), true);
            int[] r = {seed};
            int bursts = 0;
            int overs = 0;
            for (int k = 0; k < n; k++) {
                int person = draw(r, 3);
                int thing = draw(r, 10);
                int bank = x.person(person, 1) == 1 ? 0 : 1;
                if (cross("" + (char) ('q' + thing), person, NONE, bank) >= 0) {
                    bursts += x.row(1) == NONE ? 0 : 1;
                    overs += x.row(1) == NONE ? 1 : 0;
                }
            }
            due("years(" + seed + ", " + n + ")", burst, bursts);
            due("came over", over, overs);
            due("SAID", said, x.count(7));
        }
    }
}
