import java.util.NoSuchElementException;
import java.util.Random;

/** Runs drawn by fixed seeds: after each call the class tells what the slow Model tells. Arguments: first seed, how many. */
public final class RandomRuns {
    private final Random random;
    private final WordsUnsaid x = new WordsUnsaid();
    private final Model m = new Model();
    private final StringBuilder story = new StringBuilder();
    private int wrong;

    private RandomRuns(long seed) {
        random = new Random(seed);
    }

    public static void main(String[] args) {
        int first = args.length > 0 ? Integer.parseInt(args[0]) : 1;
        int runs = args.length > 1 ? Integer.parseInt(args[1]) : 400;
        int[] tally = new int[41 * 3];
        for (int seed = first; seed < first + runs; seed++) {
            RandomRuns run = new RandomRuns(seed);
            run.go(tally);
            if (run.wrong > 0) {
                System.out.println("seed " + seed + ":\n" + run.story);
                System.exit(1);
            }
        }
        if (args.length > 2) {
            for (int k = 0; k < 41; k++) {
                System.out.println("call " + k + ": answered " + tally[3 * k] + ", NONE " + tally[3 * k + 1]
                        + ", other below 0 " + tally[3 * k + 2]);
            }
        }
        System.out.println(runs + " runs are as the model's");
    }

    private int draw(int n) {
        return random.nextInt(n);
    }

    private boolean seldom(int n) {
        return draw(n) == 0;
    }

    private void due(String call, long got, long want) {
        story.append(call).append(" = ").append(got).append('\n');
        if (got != want) {
            wrong++;
            story.append("  due is ").append(want).append('\n');
        }
    }

    private void go(int[] tally) {
        if (!seldom(5)) {
            feed(riverText());
            due("river()", x.river(), m.river());
        }
        for (int k = draw(4); k >= 0 && !seldom(30); k--) {
            feed(houseText(k));
            due("house()", x.house(), m.house());
        }
        if (seldom(2)) {
            feed(ruleText());
            due("rule()", x.rule(), m.rule());
        }
        for (int k = 0; k < 150 && wrong == 0; k++) {
            int call = draw(41);
            long answer = call(call);
            tally[3 * call + (answer >= 0 ? 0 : answer == -1 ? 1 : 2)]++;
            compare();
        }
    }

    // ---- texts

    private void feed(String t) {
        t = t.length() > 80 ? t.substring(0, 80) : t;
        due("end(0)", x.end(0) ? 1 : 0, m.end(0) ? 1 : 0);
        for (int k = 0; k < t.length(); k += 4) {
            int v = 0;
            for (int j = k; j < k + 4; j++) {
                v = v << 8 | (j < t.length() ? t.charAt(j) : 0);
            }
            due("sign(" + v + ")", x.sign(v), m.sign(v));
        }
        due("end(" + t.length() + ") \"" + t + "\"", x.end(t.length()) ? 1 : 0, m.end(t.length()) ? 1 : 0);
    }

    private String spoilt(String t, String of) {
        StringBuilder s = new StringBuilder(t);
        int at = draw(s.length() + 1);
        char c = seldom(6) ? (char) draw(256) : of.charAt(draw(of.length()));
        switch (draw(4)) {
            case 0: s.insert(at, c); break;
            case 1: if (at < s.length()) s.setCharAt(at, c); break;
            case 2: if (at < s.length()) s.deleteCharAt(at); break;
            default: s.setLength(at); break;
        }
        return s.toString();
    }

    private String riverText() {
        int yards = seldom(4) ? draw(63) : 2 + draw(28);
        StringBuilder s = new StringBuilder().append(yards);
        int at = 0;
        for (int k = draw(5); k > 0; k--) {
            at += seldom(20) ? 0 : 1 + draw(Math.max(1, yards / 4));
            if (at >= yards && !seldom(10)) break;
            s.append(',').append(seldom(10) && at < 10 ? "0" : "").append(at);
        }
        return seldom(12) ? spoilt(s.toString(), "0123456789,;") : s.toString();
    }

    private String houseText(int more) {
        StringBuilder s = new StringBuilder();
        int people = m.people.size();
        int lines = 2 + draw(10);
        int same = draw(6);
        boolean greedy = seldom(3);
        for (int k = 0; k < lines; k++) {
            String line;
            if (people == 0 || k < 2 || seldom(5)) {
                line = "p" + (seldom(20) ? 0 : 3 + draw(seldom(4) ? 95 : 15)) + (seldom(6) ? "@" + draw(2) : "");
                people++;
            } else {
                int who = greedy ? same % people : draw(people);
                line = "t" + (char) ('a' + who) + (seldom(30) ? draw(45) : 1 + draw(seldom(3) ? 40 : 20)) + "*" + draw(10);
                if (seldom(3)) line += ">" + (char) ('a' + (seldom(15) ? draw(7) : (who + 1 + draw(6)) % Math.max(2, people)));
            }
            if (s.length() + line.length() + 1 > 76 && !seldom(4)) break;
            s.append(k > 0 ? ";" : "").append(line);
        }
        return seldom(15) ? spoilt(s.toString(), "pt@*>;0123456789abcdef") : s.toString();
    }

    private String ruleText() {
        String s = seldom(20) ? "" : expression(0);
        if (seldom(2)) s = "p+" + s;
        if (s.length() > 40 && !seldom(4)) s = "p+t/3-w/9";
        return seldom(8) ? spoilt(s, "ptwynio0123456789+-*/<>=()") : s;
    }

    private String expression(int deep) {
        switch (draw(deep > 4 ? 3 : 9)) {
            case 0: case 1: return "" + "ptwynio".charAt(draw(7));
            case 2: return "" + draw(seldom(4) ? 1001 : 12);
            case 3: return "-" + expression(deep + 1);
            case 4: return "(" + expression(deep + 1) + ")";
            case 5: return expression(deep + 1) + "<>=".charAt(draw(3)) + expression(deep + 1);
            default: return expression(deep + 1) + "+-*/".charAt(draw(4)) + expression(deep + 1);
        }
    }

    private String rowText() {
        StringBuilder s = new StringBuilder();
        for (int k = seldom(5) ? draw(9) : 1 + draw(4); k > 0; k--) s.append((char) ('q' + (seldom(20) ? draw(12) - 1 : drawThing())));
        return seldom(20) ? spoilt(s.toString(), "qrstuvwxyz;a") : s.toString();
    }

    private int drawThing() {
        return draw(Math.max(1, m.things.size()));
    }

    /** A row of one who is there, mostly one that can be told. */
    private String fitRow(int person, int other) {
        StringBuilder s = new StringBuilder();
        int first = draw(10);
        for (int k = 0; k < 10 && s.length() < 1 + draw(6); k++) {
            int t = (first + k * (seldom(2) ? 1 : 3)) % 10;
            if (m.t(t) == null || s.indexOf("" + (char) ('q' + t)) >= 0) continue;
            int whose = m.t(t).whose;
            if ((whose == person || whose == other) && !m.t(t).said && m.t(t).left > 0) s.append((char) ('q' + t));
        }
        return s.length() == 0 || seldom(12) ? rowText() : s.toString();
    }

    private String dayText() {
        StringBuilder s = new StringBuilder();
        for (int k = draw(6); k >= 0; k--) {
            int person = seldom(20) ? draw(6) : one();
            int other = seldom(20) ? draw(6) : neighbour(person);
            char a = (char) ('a' + Math.max(0, person));
            char b = (char) ('a' + Math.max(0, other));
            char t = fitRow(person, -1).concat("q").charAt(0);
            switch (draw(4)) {
                case 0:
                    boolean two = seldom(2);
                    s.append('c').append(a).append(two ? "+" + b : "").append(bankFor(person)).append(':')
                            .append(fitRow(person, two ? other : -1));
                    break;
                case 1: s.append('s').append(a).append(t); break;
                case 2: s.append('v').append(a).append(b).append(t); break;
                default: s.append('w').append(a).append(b).append(seldom(2) ? t : (char) ('q' + drawThing())); break;
            }
            if (k > 0) s.append(';');
        }
        return seldom(10) ? spoilt(s.toString(), "csvw+01:;abqz") : s.toString();
    }

    // ---- arguments

    private int one() {
        return seldom(25) ? draw(9) - 2 : draw(Math.max(1, m.people.size()));
    }

    private int neighbour(int person) {
        if (m.p(person) != null) {
            for (int k = 0; k < 6; k++) {
                int other = draw(m.people.size());
                if (other != person && m.p(other).place == m.p(person).place) return other;
            }
        }
        return one();
    }

    private int ownThing(int person) {
        for (int k = 0; k < 8; k++) {
            int t = drawThing();
            if (m.t(t) != null && m.t(t).whose == person) return t;
        }
        return seldom(5) ? draw(14) - 2 : drawThing();
    }

    private int bankFor(int person) {
        if (m.p(person) == null || seldom(12)) return seldom(4) ? draw(5) - 1 : draw(2);
        int place = m.p(person).place;
        return place < 2 ? 1 - place : draw(2);
    }

    private int party() {
        if (seldom(6)) return seldom(3) ? random.nextInt() : draw(70) - 3;
        int all = m.at(draw(2));
        return seldom(2) ? all : all & draw(64);
    }

    private boolean backIsCheap(int person) {
        return m.p(person) == null || Integer.bitCount(m.person(person, 2)) < 6;
    }

    // ---- calls

    private long call(int c) {
        int a = one();
        int b = seldom(2) ? Model.NONE : neighbour(a);
        int o = neighbour(a);
        int t = ownThing(a);
        int bank = bankFor(a);
        int k = draw(Math.max(1, m.islets.size() + (seldom(8) ? 2 : 0))) - (seldom(20) ? 1 : 0);
        int v = seldom(10) ? random.nextInt() : draw(14) - 2;
        String who = "(" + a + ", ";
        switch (c) {
            case 0: return same("sign(" + v + ")", x.sign(v), m.sign(v));
            case 1: v = draw(80) - 2; return same("end(" + v + ")", x.end(v) ? 1 : 0, m.end(v) ? 1 : 0);
            case 2: if (!seldom(4)) return 0; feed(riverText()); return same("river()", x.river(), m.river());
            case 3: if (!seldom(4)) return 0; feed(seldom(9) ? "" : houseText(0)); return same("house()", x.house(), m.house());
            case 4: if (!seldom(3)) return 0; feed(ruleText()); return same("rule()", x.rule(), m.rule());
            case 5: return told("person" + who + v + ")", a, v, true);
            case 6: return told("thing(" + t + ", " + v + ")", t, v, false);
            case 7: return same("islet(" + v + ")", x.islet(v), m.islet(v));
            case 8: v = draw(105) - 2; return same("hold" + who + v + ")", x.hold(a, v), m.hold(a, v));
            case 9: if (!seldom(3)) return 0; return sheet();
            case 10: case 11: feed(fitRow(a, b)); return same("cross" + who + b + ", " + bank + ")", x.cross(a, b, bank), m.cross(a, b, bank));
            case 12: feed(fitRow(a, b)); return same("look" + who + b + ", " + bank + ")", x.look(a, b, bank), m.look(a, b, bank));
            case 13: if (!seldom(3)) return 0; return same("say" + who + t + ")", x.say(a, t), m.say(a, t));
            case 14: t = seldom(2) ? drawThing() : t; return same("whisper" + who + o + ", " + t + ")", x.whisper(a, o, t), m.whisper(a, o, t));
            case 15: return same("sell" + who + o + ", " + t + ")", x.sell(a, o, t), m.sell(a, o, t));
            case 16: feed(dayText()); return same("day()", x.day(), m.day());
            case 17: case 18: return same("undo()", x.undo(), m.undo());
            case 19: return same("far" + who + bank + ")", x.far(a, bank), m.far(a, bank));
            case 20: return same("keeps" + who + t + ")", x.keeps(a, t), m.keeps(a, t));
            case 21: return same("fewest" + who + bank + ")", x.fewest(a, bank), m.fewest(a, bank));
            case 22: return same("rows" + who + bank + ")", x.rows(a, bank), m.rows(a, bank));
            case 23: return backIsCheap(a) ? same("back" + who + bank + ")", x.back(a, bank), m.back(a, bank)) : 0;
            case 24: v = v < 12 ? draw(90) - 1 : v; return same("exact" + who + v + ")", x.exact(a, v), m.exact(a, v));
            case 25: feed(fitRow(a, -1)); return same("chance" + who + bank + ")", x.chance(a, bank), m.chance(a, bank));
            case 26: v = party(); return same("party(" + v + ")", x.party(v), m.party(v));
            case 27: return same("pool" + who + bank + ")", x.pool(a, bank), m.pool(a, bank));
            default: return callOther(c, a, o, k, v);
        }
    }

    private long callOther(int c, int a, int o, int k, int v) {
        String who = "(" + a + ", ";
        switch (c) {
            case 28: v = k + 2 - draw(3); return same("known(" + v + ")", x.known(v), m.known(v));
            case 29: return same("sayable(" + a + ")", x.sayable(a), m.sayable(a));
            case 30: return same("apart()", x.apart(), m.apart());
            case 31: return same("spared()", x.spared(), m.spared());
            case 32: return same("ashore" + who + k + ")", x.ashore(a, k), m.ashore(a, k));
            case 33: return same("about" + who + k + ")", x.about(a, k), m.about(a, k));
            case 34: return same("bargain" + who + o + ")", x.bargain(a, o), m.bargain(a, o));
            case 35: int n = draw(44) - 1; return same("years(" + v + ", " + n + ")", x.years(v, n), m.years(v, n));
            case 36: v = draw(4) - 1; return same("keep(" + v + ")", x.keep(v) ? 1 : 0, m.keep(v) ? 1 : 0);
            case 37: v = draw(4) - 1; return same("again(" + v + ")", x.again(v) ? 1 : 0, m.again(v) ? 1 : 0);
            case 38: return same("count(" + v + ")", x.count(v), m.count(v));
            case 39: return rowTold(v);
            default: return wild();
        }
    }

    private long same(String call, long got, long want) {
        due(call, got, want);
        return got;
    }

    private long sheet() {
        int kind = draw(5) - (seldom(5) ? 1 : 0);
        int n = draw(13) - 1;
        int f = seldom(3) ? random.nextInt() : draw(20) - 5;
        int step = seldom(4) ? random.nextInt() : draw(9) - 3;
        return same("sheet(" + kind + ", " + n + ", " + f + ", " + step + ")", x.sheet(kind, n, f, step), m.sheet(kind, n, f, step));
    }

    private long told(String call, int i, int what, boolean ofPerson) {
        long got;
        long want;
        try {
            got = ofPerson ? x.person(i, what) : x.thing(i, what);
        } catch (NoSuchElementException e) {
            got = Long.MIN_VALUE;
        }
        try {
            want = ofPerson ? m.person(i, what) : m.thing(i, what);
        } catch (NoSuchElementException e) {
            want = Long.MIN_VALUE;
        }
        return same(call, got, want);
    }

    private long rowTold(int i) {
        long got;
        try {
            got = x.row(i);
        } catch (NoSuchElementException e) {
            got = Long.MIN_VALUE;
        }
        return same("row(" + i + ")", got, i >= 0 && i < m.row.size() ? m.row.get(i) : Long.MIN_VALUE);
    }

    /** Any ints at all: refused or not, as the model. */
    private long wild() {
        int[] any = {0, 1, -1, 2, 3, 7, 32, 33, 64, 100, Integer.MIN_VALUE, Integer.MAX_VALUE, 1 << 31 | 1, random.nextInt()};
        int a = any[draw(any.length)];
        int b = any[draw(any.length)];
        int c = any[draw(any.length)];
        String of = "(" + a + ", " + b + ", " + c + ")";
        due("cross" + of, x.cross(a, b, c), m.cross(a, b, c));
        due("look" + of, x.look(a, b, c), m.look(a, b, c));
        due("say" + of, x.say(a, b), m.say(a, b));
        due("whisper" + of, x.whisper(a, b, c), m.whisper(a, b, c));
        due("sell" + of, x.sell(a, b, c), m.sell(a, b, c));
        due("far" + of, x.far(a, b), m.far(a, b));
        due("keeps" + of, x.keeps(a, b), m.keeps(a, b));
        due("fewest" + of, x.fewest(a, b), m.fewest(a, b));
        due("rows" + of, x.rows(a, b), m.rows(a, b));
        due("exact" + of, x.exact(a, b), m.exact(a, b));
        due("chance" + of, x.chance(a, b), m.chance(a, b));
        due("party" + of, x.party(a), m.party(a));
        due("pool" + of, x.pool(a, b), m.pool(a, b));
        due("known" + of, x.known(a), m.known(a));
        due("sayable" + of, x.sayable(a), m.sayable(a));
        due("ashore" + of, x.ashore(a, b), m.ashore(a, b));
        due("about" + of, x.about(a, b), m.about(a, b));
        due("bargain" + of, x.bargain(a, b), m.bargain(a, b));
        due("years" + of, x.years(a, b), m.years(a, b));
        due("islet" + of, x.islet(a), m.islet(a));
        due("hold" + of, x.hold(a, b), m.hold(a, b));
        told("person" + of, a, b, true);
        told("thing" + of, a, b, false);
        if (backIsCheap(a)) due("back" + of, x.back(a, b), m.back(a, b));
        return 0;
    }

    private void compare() {
        int before = wrong;
        for (int what = -1; what < 13; what++) due("count(" + what + ")", x.count(what), m.count(what));
        for (int i = -1; i < m.row.size() + 1; i++) rowTold(i);
        for (int i = 0; i < m.people.size(); i++) {
            for (int what = 0; what < 6; what++) told("person(" + i + ", " + what + ")", i, what, true);
        }
        for (int i = 0; i < m.things.size(); i++) {
            for (int what = 0; what < 7; what++) told("thing(" + i + ", " + what + ")", i, what, false);
        }
        for (int k = 0; k < 6; k++) due("islet(" + k + ")", x.islet(k), m.islet(k));
        if (wrong == before) story.setLength(Math.max(0, story.lastIndexOf("count(-1)")));
    }
}
