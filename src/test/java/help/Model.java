import java.util.ArrayList;
import java.util.Collections;
import java.util.Comparator;
import java.util.LinkedHashSet;
import java.util.List;
import java.util.NoSuchElementException;
import java.util.Set;
import java.util.TreeSet;

/**
 * The document once more, in the plainest way and slow: lists, sets and every row tried from its first yard on.
 * RandomRuns holds the class against it.
 */
final class Model {
    static final int NONE = -1;

    static final class Person {
        int hold, place, coins;
    }

    static final class Thing {
        int words, left, press, whose, about;
        boolean said;
        Set<Integer> knows = new TreeSet<>();
    }

    /** What undo() and again() bring back. */
    static final class Kept {
        List<int[]> people = new ArrayList<>();
        List<int[]> things = new ArrayList<>();
        List<Set<Integer>> knows = new ArrayList<>();
    }

    static final class Fault extends RuntimeException {
        private static final long serialVersionUID = 1;
        final int at;

        Fault(int at) {
            super(null, null, false, false);
            this.at = at;
        }
    }

    int yards = 20;
    List<Integer> islets = new ArrayList<>();
    List<Person> people = new ArrayList<>();
    List<Thing> things = new ArrayList<>();
    String rule = "p+t/2";
    String text = "";
    List<Integer> row = new ArrayList<>();
    List<Kept> undone = new ArrayList<>();
    Kept[] kept = new Kept[2];

    // ---- reading

    static final class Reader {
        final String s;
        final int limit;
        final int whole;
        int p = 0;

        Reader(String text, int most) {
            whole = text.length();
            limit = Math.min(whole, most);
            s = text.substring(0, limit);
        }

        char peek() {
            return p < limit ? s.charAt(p) : '\uffff';
        }

        boolean more() {
            return p < limit;
        }

        void want(char c) {
            if (peek() != c) throw new Fault(p);
            p++;
        }

        boolean may(char c) {
            if (peek() != c) return false;
            p++;
            return true;
        }

        int number(int digits, int low, int high) {
            String d = "";
            while (d.length() < digits && "0123456789".indexOf(peek()) >= 0) d += s.charAt(p++);
            if (d.isEmpty()) throw new Fault(p);
            int v = Integer.parseInt(d);
            if (v < low || v > high) throw new Fault(p - 1);
            return v;
        }

        int letter(String of) {
            int k = of.indexOf(peek());
            if (k < 0) throw new Fault(p);
            p++;
            return k;
        }

        void close() {
            if (p < limit) throw new Fault(p);
            if (limit < whole) throw new Fault(limit);
        }
    }

    int sign(int v) {
        if (text.length() + 4 > 80) return NONE;
        for (int k = 3; k >= 0; k--) text += (char) (v >> 8 * k & 255);
        return text.length();
    }

    boolean end(int n) {
        if (n < 0 || n > text.length()) return false;
        text = text.substring(0, n);
        return true;
    }

    String taken() {
        String t = text;
        text = "";
        return t;
    }

    int river() {
        String t = taken();
        for (Person p : people) if (p.place > 1) return -100;
        try {
            Reader r = new Reader(t, 80);
            int y = r.number(2, 2, 60);
            List<Integer> is = new ArrayList<>();
            while (r.more() && is.size() < 5) {
                r.want(',');
                is.add(r.number(2, is.isEmpty() ? 1 : is.get(is.size() - 1) + 1, y - 1));
            }
            r.close();
            yards = y;
            islets = is;
        } catch (Fault f) {
            return -1 - f.at;
        }
        undone.clear();
        kept = new Kept[2];
        return islets.size();
    }

    int house() {
        String t = taken();
        if (t.isEmpty()) return 0;
        List<Person> ps = new ArrayList<>(people);
        List<Thing> ts = new ArrayList<>(things);
        int lines = 0;
        try {
            Reader r = new Reader(t, 76);
            do {
                line(r, ps, ts);
                lines++;
            } while (r.may(';'));
            r.close();
        } catch (Fault f) {
            return -1 - f.at;
        }
        people = ps;
        things = ts;
        undone.clear();
        kept = new Kept[2];
        return lines;
    }

    void line(Reader r, List<Person> ps, List<Thing> ts) {
        char c = r.peek();
        if (c == 'p' && ps.size() < 6) {
            r.p++;
            Person q = new Person();
            q.hold = r.number(2, 1, 99);
            q.place = r.may('@') ? r.letter("01") : 0;
            q.coins = 5;
            ps.add(q);
        } else if (c == 't' && ts.size() < 10) {
            r.p++;
            String there = "abcdef".substring(0, ps.size());
            Thing q = new Thing();
            q.whose = r.letter(there);
            q.words = q.left = r.number(2, 1, 40);
            r.want('*');
            q.press = r.letter("0123456789");
            q.about = NONE;
            if (r.may('>')) {
                q.about = r.letter(there);
                if (q.about == q.whose) throw new Fault(r.p - 1);
            }
            q.knows.add(q.whose);
            ts.add(q);
        } else {
            throw new Fault(r.p);
        }
    }

    int rule() {
        String t = taken();
        if (t.isEmpty()) {
            rule = "p+t/2";
            return 0;
        }
        try {
            Worked w = new Worked(t, new int[7]);
            w.all();
        } catch (Fault f) {
            return -1 - f.at;
        }
        rule = t;
        return 0;
    }

    /** An EXPRESSION, worked out while it is read. */
    static final class Worked {
        final Reader r;
        final int[] facts;

        Worked(String t, int[] facts) {
            r = new Reader(t, 40);
            this.facts = facts;
        }

        int all() {
            int v = compared(0);
            r.close();
            return v;
        }

        int compared(int nested) {
            int a = sum(nested);
            if (r.may('<')) return a < sum(nested) ? 1 : 0;
            if (r.may('>')) return a > sum(nested) ? 1 : 0;
            if (r.may('=')) return a == sum(nested) ? 1 : 0;
            return a;
        }

        int sum(int nested) {
            int a = product(nested);
            while (true) {
                if (r.may('+')) a += product(nested);
                else if (r.may('-')) a -= product(nested);
                else return a;
            }
        }

        int product(int nested) {
            int a = signed(nested);
            while (true) {
                if (r.may('*')) {
                    a *= signed(nested);
                } else if (r.may('/')) {
                    int b = signed(nested);
                    a = b == 0 ? 0 : a / b;
                } else {
                    return a;
                }
            }
        }

        int signed(int nested) {
            if (r.may('-')) return -signed(nested);
            if (nested < 4 && r.may('(')) {
                int a = compared(nested + 1);
                r.want(')');
                return a;
            }
            if ("0123456789".indexOf(r.peek()) >= 0) return r.number(3, 0, 999);
            return facts[r.letter("ptwynio")];
        }
    }

    // ---- one and all

    Person p(int i) {
        return i >= 0 && i < people.size() ? people.get(i) : null;
    }

    Thing t(int i) {
        return i >= 0 && i < things.size() ? things.get(i) : null;
    }

    int bits(java.util.function.IntPredicate which, int n) {
        int b = 0;
        for (int i = 0; i < n; i++) if (which.test(i)) b |= 1 << i;
        return b;
    }

    int at(int place) {
        return bits(i -> p(i).place == place, people.size());
    }

    List<Integer> whoAt(int place) {
        List<Integer> w = new ArrayList<>();
        for (int i = 0; i < people.size(); i++) if (p(i).place == place) w.add(i);
        return w;
    }

    int person(int i, int what) {
        Person q = p(i);
        if (q == null || what < 0 || what > 5) throw new NoSuchElementException();
        if (what == 0) return q.hold;
        if (what == 1) return q.place;
        if (what == 2) return bits(k -> t(k).whose == i, things.size());
        if (what == 3) return bits(k -> t(k).knows.contains(i), things.size());
        if (what == 5) return q.coins;
        int sum = 0;
        for (Thing x : things) if (x.whose == i && !x.said) sum += x.left;
        return sum;
    }

    int thing(int i, int what) {
        Thing q = t(i);
        if (q == null || what < 0 || what > 6) throw new NoSuchElementException();
        int[] all = {q.words, q.left, q.press, q.whose, q.about, q.said ? 1 : 0, bits(k -> q.knows.contains(k), 6)};
        return all[what];
    }

    int islet(int k) {
        return k >= 0 && k < islets.size() ? islets.get(k) : NONE;
    }

    int hold(int i, int v) {
        if (p(i) == null || v < 1 || v > 99) return NONE;
        int was = p(i).hold;
        p(i).hold = v;
        return was;
    }

    int sheet(int kind, int n, int f, int step) {
        if (kind < 0 || kind > 3 || n > 10) return NONE;
        if (kind == 3) {
            for (Thing x : things) x.press = 0;
            return -3;
        }
        if (n < 0) return -2;
        int[] entries = new int[10];
        int e = f;
        for (int k = 0; k < n; k++) {
            int v = kind == 0 ? (byte) e : kind == 1 ? (short) e : e;
            entries[k] = v < 0 ? 0 : v > 9 ? 9 : v;
            e += step;
        }
        int sum = 0;
        for (int k = 0; k < things.size(); k++) {
            t(k).press = entries[k];
            sum += entries[k];
        }
        return sum;
    }

    // ---- crossings

    static final class Trip {
        int crossed, said = NONE, place, burstBy;
        int[] used = new int[10];
        List<Integer> pressures = new ArrayList<>();
    }

    int yard(int place) {
        return place == 0 ? 0 : place == 1 ? yards : islets.get(place - 2);
    }

    int distance(int from, int bank) {
        return Math.abs(yard(from) - yard(bank));
    }

    int pressure(int thing, int t, int left, int y, List<Integer> aboard) {
        Thing x = t(thing);
        int[] facts = {x.press, t, left, y, aboard.size(), x.whose, aboard.contains(x.about) ? 1 : 0};
        return new Worked(rule, facts).all();
    }

    boolean enough(List<Integer> r, int far, int[] left) {
        int sum = 0;
        for (int k : r) sum += left[k];
        return sum >= far;
    }

    int[] lefts() {
        int[] l = new int[10];
        for (int k = 0; k < things.size(); k++) l[k] = t(k).left;
        return l;
    }

    Trip trip(List<Integer> aboard, int from, int bank, List<Integer> r, int[] had) {
        int[] left = had.clone();
        int[] since = new int[10];
        Trip w = new Trip();
        int far = distance(from, bank);
        int here = yard(from);
        int passed = from;
        while (w.crossed < far) {
            int x = -1;
            for (int k : r) if (x < 0 && left[k] > 0) x = k;
            int press = pressure(x, since[x], left[x], w.crossed, aboard);
            w.pressures.add(press);
            if (press > p(t(x).whose).hold) {
                w.said = x;
                w.burstBy = press;
                w.place = passed;
                return w;
            }
            left[x]--;
            since[x]++;
            w.used[x]++;
            w.crossed++;
            here += bank == 1 ? 1 : -1;
            if (islets.contains(here)) passed = 2 + islets.indexOf(here);
        }
        w.place = bank;
        return w;
    }

    boolean cannot(int i, int other, int bank) {
        if (p(i) == null || bank < 0 || bank > 1) return true;
        if (other != NONE && (p(other) == null || other == i || p(other).place != p(i).place)) return true;
        return p(i).place == bank;
    }

    List<Integer> aboard(int i, int other) {
        return other == NONE ? List.of(i) : List.of(i, other);
    }

    List<Integer> readRow(String s, List<Integer> aboard) {
        List<Integer> r = new ArrayList<>();
        for (int k = 0; k < s.length(); k++) {
            int x = s.charAt(k) - 'q';
            if (k == 6 || t(x) == null || r.contains(x) || t(x).said || t(x).left == 0 || !aboard.contains(t(x).whose)) {
                throw new Fault(k);
            }
            r.add(x);
        }
        if (r.isEmpty()) throw new Fault(0);
        return r;
    }

    int crossing(String s, int i, int other, int bank, boolean really) {
        if (cannot(i, other, bank)) return -100;
        List<Integer> ab = aboard(i, other);
        List<Integer> r;
        try {
            r = readRow(s, ab);
        } catch (Fault f) {
            return -1 - f.at;
        }
        int from = p(i).place;
        if (!enough(r, distance(from, bank), lefts())) return -200;
        Trip w = trip(ab, from, bank, r, lefts());
        if (really) {
            for (int k = 0; k < things.size(); k++) t(k).left -= w.used[k];
            for (int k : ab) p(k).place = w.place;
            if (w.said != NONE) {
                t(w.said).said = true;
                t(w.said).knows.addAll(ab);
            }
        }
        row = new ArrayList<>(List.of(w.place, w.said, w.crossed));
        return w.crossed;
    }

    int look(int i, int other, int bank) {
        return crossing(taken(), i, other, bank, false);
    }

    int cross(int i, int other, int bank) {
        Kept before = save();
        return done(before, crossing(taken(), i, other, bank, true));
    }

    int done(Kept before, int answer) {
        if (answer >= 0) push(before);
        return answer;
    }

    void push(Kept before) {
        undone.add(before);
        if (undone.size() > 12) undone.remove(0);
    }

    Kept save() {
        Kept k = new Kept();
        for (Person q : people) k.people.add(new int[] {q.place, q.coins});
        for (Thing q : things) {
            k.things.add(new int[] {q.left, q.said ? 1 : 0, q.whose});
            k.knows.add(new TreeSet<>(q.knows));
        }
        return k;
    }

    void load(Kept k) {
        for (int i = 0; i < people.size(); i++) {
            p(i).place = k.people.get(i)[0];
            p(i).coins = k.people.get(i)[1];
        }
        for (int i = 0; i < things.size(); i++) {
            t(i).left = k.things.get(i)[0];
            t(i).said = k.things.get(i)[1] == 1;
            t(i).whose = k.things.get(i)[2];
            t(i).knows = new TreeSet<>(k.knows.get(i));
        }
    }

    int say(int i, int x) {
        Kept before = save();
        return done(before, speak(i, x, true));
    }

    int speak(int i, int x, boolean really) {
        if (p(i) == null || t(x) == null || t(x).whose != i) return NONE;
        if (t(x).said) return -3;
        List<Integer> there = whoAt(p(i).place);
        if (there.contains(t(x).about)) return -2;
        int n = 0;
        for (int k : there) if (k != i && !t(x).knows.contains(k)) n++;
        if (really) {
            t(x).said = true;
            t(x).knows.addAll(there);
        }
        return n;
    }

    int whisper(int i, int other, int x) {
        Kept before = save();
        return done(before, pass(i, other, x));
    }

    int pass(int i, int other, int x) {
        if (p(i) == null || p(other) == null || i == other || t(x) == null || !t(x).knows.contains(i)) return NONE;
        if (!t(x).said && t(x).whose != i) return NONE;
        if (p(i).place != p(other).place) return -2;
        return t(x).knows.add(other) ? 1 : 0;
    }

    int sell(int i, int other, int x) {
        Kept before = save();
        return done(before, trade(i, other, x, true));
    }

    int trade(int i, int other, int x, boolean really) {
        if (p(i) == null || p(other) == null || i == other || t(x) == null) return NONE;
        if (t(x).whose != i || t(x).said || t(x).left == 0) return NONE;
        if (p(i).place != p(other).place) return -2;
        int price = t(x).left / 5 + (t(x).left % 5 > 0 ? 1 : 0);
        if (p(other).coins < price || t(x).about == other || p(i).coins + price > 99) return -3;
        if (really) {
            p(i).coins += price;
            p(other).coins -= price;
            t(x).whose = other;
            t(x).knows.add(other);
        }
        return price;
    }

    int day() {
        String s = taken();
        List<String> acts = new ArrayList<>();
        try {
            Reader r = new Reader(s, 60);
            if (!s.isEmpty()) {
                do {
                    int from = r.p;
                    actIs(r);
                    acts.add(s.substring(from, r.p));
                } while (r.may(';'));
            }
            r.close();
        } catch (Fault f) {
            return -1 - f.at;
        }
        Kept before = save();
        int n = 0, bursts = 0, stuck = 0;
        for (String a : acts) {
            if (act(a) < 0) {
                stuck = 1;
                break;
            }
            n++;
            if (a.charAt(0) == 'c' && row.get(1) != NONE) bursts++;
        }
        if (n > 0) push(before);
        row = new ArrayList<>(List.of(stuck, bursts));
        return n;
    }

    void actIs(Reader r) {
        String who = "abcdef", what = "qrstuvwxyz";
        int kind = r.letter("csvw");
        int first = r.letter(who);
        if (kind == 0) {
            if (r.may('+') && r.letter(who) == first) throw new Fault(r.p - 1);
            r.letter("01");
            r.want(':');
            r.letter(what);
            for (int k = 0; k < 5 && what.indexOf(r.peek()) >= 0; k++) r.p++;
        } else {
            if (kind > 1) r.letter(who);
            r.letter(what);
        }
    }

    int act(String a) {
        char c = a.charAt(0);
        int i = a.charAt(1) - 'a';
        if (c == 's') return speak(i, a.charAt(2) - 'q', true);
        if (c == 'v') return trade(i, a.charAt(2) - 'a', a.charAt(3) - 'q', true);
        if (c == 'w') return pass(i, a.charAt(2) - 'a', a.charAt(3) - 'q');
        int colon = a.indexOf(':');
        int other = a.charAt(2) == '+' ? a.charAt(3) - 'a' : NONE;
        return crossing(a.substring(colon + 1), i, other, a.charAt(colon - 1) - '0', true);
    }

    int undo() {
        if (undone.isEmpty()) return NONE;
        load(undone.remove(undone.size() - 1));
        return undone.size();
    }

    // ---- questions

    int far(int i, int bank) {
        return cannot(i, NONE, bank) ? NONE : distance(p(i).place, bank);
    }

    int keeps(int i, int x) {
        if (p(i) == null || t(x) == null || t(x).whose != i || t(x).said) return NONE;
        int n = 0;
        int burst = 0;
        while (n < 60 && n < t(x).left) {
            int press = pressure(x, n, t(x).left - n, n, List.of(i));
            if (press > p(i).hold) {
                burst = press;
                break;
            }
            n++;
        }
        row = new ArrayList<>(List.of(burst));
        return n;
    }

    static final Comparator<List<Integer>> LEAST = (a, b) -> {
        for (int k = 0; k < a.size() && k < b.size(); k++) {
            if (!a.get(k).equals(b.get(k))) return a.get(k) - b.get(k);
        }
        return a.size() - b.size();
    };

    /** All rows of 1 to most THINGS that may be told, least first, with too few WORDS or not. */
    List<List<Integer>> rowsOf(List<Integer> aboard, int most, int[] left) {
        List<List<Integer>> all = new ArrayList<>();
        grow(all, new ArrayList<>(), aboard, most, left);
        Collections.sort(all, LEAST);
        return all;
    }

    void grow(List<List<Integer>> all, List<Integer> r, List<Integer> aboard, int most, int[] left) {
        if (!r.isEmpty()) all.add(new ArrayList<>(r));
        if (r.size() == most) return;
        for (int k = things.size() - 1; k >= 0; k--) {
            if (r.contains(k) || t(k).said || left[k] == 0 || !aboard.contains(t(k).whose)) continue;
            r.add(k);
            grow(all, r, aboard, most, left);
            r.remove(r.size() - 1);
        }
    }

    List<Integer> fewestRow(List<Integer> aboard, int from, int bank, int most) {
        List<Integer> best = null;
        int[] left = lefts();
        for (List<Integer> r : rowsOf(aboard, most, left)) {
            if (best != null && r.size() >= best.size()) continue;
            if (enough(r, distance(from, bank), left) && trip(aboard, from, bank, r, left).said == NONE) best = r;
        }
        return best;
    }

    int fewest(int i, int bank) {
        if (cannot(i, NONE, bank)) return NONE;
        List<Integer> best = fewestRow(List.of(i), p(i).place, bank, 4);
        if (best == null) return -2;
        row = best;
        return best.size();
    }

    int rows(int i, int bank) {
        if (cannot(i, NONE, bank)) return NONE;
        int over = 0, burst = 0;
        int[] left = lefts();
        for (List<Integer> r : rowsOf(List.of(i), 3, left)) {
            if (!enough(r, distance(p(i).place, bank), left)) continue;
            if (trip(List.of(i), p(i).place, bank, r, left).said == NONE) over++;
            else burst++;
        }
        row = new ArrayList<>(List.of(burst));
        return over;
    }

    int back(int i, int bank) {
        if (cannot(i, NONE, bank) || p(i).place > 1) return NONE;
        List<Integer> ab = List.of(i);
        List<Integer> best = null;
        int[] left = lefts();
        for (List<Integer> r : rowsOf(ab, 3, left)) {
            if (!enough(r, yards, left)) continue;
            Trip out = trip(ab, p(i).place, bank, r, left);
            if (out.said != NONE) continue;
            int[] then = left.clone();
            for (int k = 0; k < 10; k++) then[k] -= out.used[k];
            for (List<Integer> q : rowsOf(ab, 3, then)) {
                if (!enough(q, yards, then) || trip(ab, bank, p(i).place, q, then).said != NONE) continue;
                List<Integer> both = new ArrayList<>();
                both.add(r.size());
                both.addAll(r);
                both.addAll(q);
                if (best == null || both.size() < best.size()
                        || both.size() == best.size() && LEAST.compare(both, best) < 0) best = both;
            }
        }
        if (best == null) return -2;
        row = best;
        return best.size() - 1;
    }

    int exact(int i, int v) {
        if (p(i) == null || v < 1 || v > 400) return NONE;
        List<Integer> sets = new ArrayList<>();
        for (int s = 0; s < 1 << things.size(); s++) {
            int sum = 0;
            boolean may = true;
            for (int k = 0; k < things.size(); k++) {
                if ((s >> k & 1) == 0) continue;
                may &= t(k).whose == i && !t(k).said;
                sum += t(k).left;
            }
            if (may && sum == v) sets.add(s);
        }
        Comparator<Integer> small = Comparator.comparingInt((Integer s) -> Integer.bitCount(s)).thenComparing(s -> s);
        Comparator<Integer> great = Comparator.comparingInt((Integer s) -> -Integer.bitCount(s)).thenComparing(s -> s);
        row = new ArrayList<>();
        row.add(sets.isEmpty() ? NONE : Collections.min(sets, small));
        row.add(sets.isEmpty() ? NONE : Collections.min(sets, great));
        return sets.size();
    }

    int chance(int i, int bank) {
        String s = taken();
        if (cannot(i, NONE, bank)) return -100;
        List<Integer> r;
        try {
            r = readRow(s, List.of(i));
        } catch (Fault f) {
            return -1 - f.at;
        }
        int far = distance(p(i).place, bank);
        if (!enough(r, far, lefts())) return -200;
        int hold = p(i).hold;
        p(i).hold = Integer.MAX_VALUE;
        List<Integer> pressures = trip(List.of(i), p(i).place, bank, r, lefts()).pressures;
        p(i).hold = hold;
        int chance = 10000, least = 10, where = NONE;
        for (int y = 0; y < far; y++) {
            int keptBack = 0;
            for (int d = 0; d <= 9; d++) if ((long) pressures.get(y) + d <= hold) keptBack++;
            if (keptBack < least) {
                least = keptBack;
                where = y;
            }
            chance = chance * keptBack / 10;
        }
        row = new ArrayList<>(List.of(where));
        return chance;
    }

    int party(int those) {
        if (those <= 0 || those >> people.size() != 0) return NONE;
        List<Integer> told = new ArrayList<>();
        for (int i = 0; i < 6; i++) if ((those >> i & 1) == 1) told.add(i);
        int from = p(told.get(0)).place;
        for (int i : told) if (p(i).place != from) return NONE;
        if (from > 1) return NONE;
        boolean[][] fits = new boolean[6][6];
        for (int i : told) {
            for (int j : told) {
                if (j < i) continue;
                fits[i][j] = fewestRow(i == j ? List.of(i) : List.of(i, j), from, 1 - from, 3) != null;
                fits[j][i] = fits[i][j];
            }
        }
        List<List<Integer>> ways = new ArrayList<>();
        pair(told, new int[] {-1, -1, -1, -1, -1, -1}, fits, ways);
        List<Integer> best = null;
        int fewest = 99;
        for (List<Integer> w : ways) {
            Set<String> boats = new LinkedHashSet<>();
            for (int k = 0; k < told.size(); k++) {
                boats.add(Math.min(told.get(k), w.get(k)) + "," + Math.max(told.get(k), w.get(k)));
            }
            if (best == null || boats.size() < fewest || boats.size() == fewest && LEAST.compare(w, best) < 0) {
                best = w;
                fewest = boats.size();
            }
        }
        if (best == null) return -2;
        row = best;
        return fewest;
    }

    void pair(List<Integer> told, int[] with, boolean[][] fits, List<List<Integer>> ways) {
        int i = -1;
        for (int k : told) if (i < 0 && with[k] < 0) i = k;
        if (i < 0) {
            List<Integer> w = new ArrayList<>();
            for (int k : told) w.add(with[k]);
            ways.add(w);
            return;
        }
        for (int j : told) {
            if (with[j] >= 0 || !fits[i][j]) continue;
            with[i] = j;
            with[j] = i;
            pair(told, with, fits, ways);
            with[i] = -1;
            with[j] = -1;
        }
    }

    int pool(int i, int bank) {
        if (cannot(i, NONE, bank)) return NONE;
        int from = p(i).place;
        List<Integer> alone = fewestRow(List.of(i), from, bank, 3);
        int best = NONE, size = 0;
        for (int j : whoAt(from)) {
            if (j == i) continue;
            List<Integer> r = fewestRow(List.of(i, j), from, bank, 3);
            if (r != null && (best == NONE || r.size() < size)) {
                best = j;
                size = r.size();
            }
        }
        if (best == NONE) return -2;
        row = new ArrayList<>(List.of(size, alone == null ? NONE : alone.size()));
        return best;
    }

    int known(int place) {
        if (place < 0 || place >= 2 + islets.size()) return NONE;
        List<Integer> there = whoAt(place);
        int all = bits(k -> !there.isEmpty() && t(k).knows.containsAll(there), things.size());
        row = new ArrayList<>(List.of(all));
        return bits(k -> !Collections.disjoint(t(k).knows, there), things.size());
    }

    int sayable(int i) {
        if (p(i) == null) return NONE;
        int those = 0, more = 0;
        for (int k = 0; k < things.size(); k++) {
            int n = speak(i, k, false);
            if (n >= 0) {
                those |= 1 << k;
                more += n;
            }
        }
        row = new ArrayList<>(List.of(more));
        return those;
    }

    int apart() {
        int near = bits(k -> !Collections.disjoint(t(k).knows, whoAt(0)), things.size());
        int far = bits(k -> !Collections.disjoint(t(k).knows, whoAt(1)), things.size());
        row = new ArrayList<>(List.of(near - (near & far), far - (near & far)));
        return row.get(0) + row.get(1);
    }

    int spared() {
        int best = NONE, fewest = 0;
        for (int i = 0; i < people.size(); i++) {
            int n = 0;
            boolean some = false;
            for (Thing x : things) {
                if (x.about != i) continue;
                some = true;
                for (int k : x.knows) if (k != x.whose) n++;
            }
            if (some && (best == NONE || n < fewest)) {
                best = i;
                fewest = n;
            }
        }
        if (best == NONE) return -2;
        row = new ArrayList<>(List.of(fewest));
        return best;
    }

    int ashore(int i, int k) {
        if (p(i) == null || islet(k) == NONE || p(i).place > 1) return NONE;
        List<List<Integer>> found = new ArrayList<>();
        burstsOn(i, k, found);
        row = found.isEmpty() ? new ArrayList<>() : Collections.min(found, LEAST);
        return found.size();
    }

    int[] burstsOn(int i, int k, List<List<Integer>> found) {
        int[] said = new int[10];
        int[] left = lefts();
        int from = p(i).place;
        for (List<Integer> r : rowsOf(List.of(i), 3, left)) {
            if (!enough(r, yards, left)) continue;
            Trip w = trip(List.of(i), from, 1 - from, r, left);
            if (w.said != NONE && w.place == 2 + k) {
                found.add(r);
                said[w.said]++;
            }
        }
        return said;
    }

    int about(int i, int k) {
        if (p(i) == null || islet(k) == NONE || p(i).place > 1) return NONE;
        int[] said = burstsOn(i, k, new ArrayList<>());
        row = new ArrayList<>();
        for (int x = 0; x < 10; x++) if (said[x] > 0) row.add(said[x]);
        return bits(x -> said[x] > 0, 10);
    }

    int bargain(int i, int other) {
        if (p(i) == null || p(other) == null || i == other || p(i).place != p(other).place) return NONE;
        int best = NONE, bestPrice = 0;
        for (int x = 0; x < things.size(); x++) {
            int price = trade(i, other, x, false);
            if (price < 0) continue;
            if (best == NONE || t(x).left * bestPrice > t(best).left * price) {
                best = x;
                bestPrice = price;
            }
        }
        if (best == NONE) return -2;
        row = new ArrayList<>(List.of(bestPrice, t(best).left));
        return best;
    }

    int years(int seed, int n) {
        if (n < 1 || n > 40) return NONE;
        if (people.isEmpty()) return -2;
        Kept before = save();
        int r = seed, over = 0, bursts = 0;
        for (int k = 0; k < n; k++) {
            r = r * 1103515245 + 12345;
            int who = (int) ((r & 0xffffffffL) / 65536 % people.size());
            r = r * 1103515245 + 12345;
            int what = (int) ((r & 0xffffffffL) / 65536 % 10);
            int bank = p(who).place == 0 ? 1 : p(who).place == 1 ? 0 : 1;
            if (crossing("" + (char) ('q' + what), who, NONE, bank, true) < 0) continue;
            if (row.get(1) == NONE) over++;
            else bursts++;
        }
        row = new ArrayList<>(List.of(over, bits(k -> t(k).said, things.size())));
        load(before);
        return bursts;
    }

    // ---- kept

    boolean keep(int i) {
        if (i < 0 || i > 1) return false;
        kept[i] = save();
        return true;
    }

    boolean again(int i) {
        if (i < 0 || i > 1 || kept[i] == null) return false;
        load(kept[i]);
        undone.clear();
        return true;
    }

    int count(int what) {
        int left = 0;
        for (Thing x : things) left += x.left;
        int all = (1 << people.size()) - 1;
        int[] counts = {people.size(), things.size(), islets.size(), yards, at(0), at(1), all - at(0) - at(1),
            bits(k -> t(k).said, things.size()), left, undone.size(), row.size(), text.length()};
        return what < 0 || what > 11 ? NONE : counts[what];
    }

    int row(int i) {
        if (i < 0 || i >= row.size()) throw new NoSuchElementException();
        return row.get(i);
    }
}
