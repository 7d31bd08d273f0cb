import java.util.Random;
import java.util.regex.Matcher;
import java.util.regex.Pattern;

/**
 * Drawn texts, many of them as long as they may be and longer: what can't stand in them is found by patterns here, that
 * tell of each first n signs whether they could go on. Arguments: a seed, how many texts of each kind.
 */
public final class TextRuns extends Checks {
    private static final int FINE = 1000;
    private static final Pattern RIVER = Pattern.compile("\\d{1,2}(,\\d{1,2}){0,5}");
    private static final Pattern HOUSE = lines("(p\\d{1,2}(@[01])?|t[a-f]\\d{1,2}\\*\\d(>[a-f])?)");
    private static final Pattern DAY = lines("(c[a-f](\\+[a-f])?[01]:[q-z]{1,6}|s[a-f][q-z]|[vw][a-f]{2}[q-z])");
    private static final Pattern RULE = Pattern.compile(expression(0));

    private final Random random;
    /** One object reads some rules: what a wrong one leaves behind may not reach the next. */
    private WordsUnsaid ofRules;

    private TextRuns(long seed) {
        random = new Random(seed);
    }

    public static void main(String[] args) {
        int seed = args.length > 0 ? Integer.parseInt(args[0]) : 1;
        int texts = args.length > 1 ? Integer.parseInt(args[1]) : 4000;
        TextRuns t = new TextRuns(seed);
        for (int k = 0; k < texts; k++) {
            t.ofRules = k % 20 == 0 ? new WordsUnsaid() : t.ofRules;
            t.rivers();
            t.houses();
            t.rules();
            t.days();
        }
        t.finish("TextRuns");
    }

    // ---- what can't stand

    private static Pattern lines(String line) {
        return Pattern.compile(line + "(;" + line + ")*");
    }

    /** One joint of < > = at most, with things joined by others on both sides of it. */
    private static String expression(int nested) {
        String inside = nested < 4 ? "|\\(" + expression(nested + 1) + "\\)" : "";
        String thing = "-*+(?:\\d{1,3}+|[ptwynio]" + inside + ")";
        String sum = thing + "(?:[-+*/]" + thing + ")*+";
        return sum + "(?:[<>=]" + sum + ")?+";
    }

    /** The first sign behind which no text goes on or ends; FINE: each can stand. */
    private static int fault(Pattern form, String text, int most) {
        for (int n = 1; n <= Math.min(most, text.length()); n++) {
            Matcher m = form.matcher(text.substring(0, n));
            if (!m.matches() && !m.hitEnd()) {
                return n - 1;
            }
        }
        if (text.length() > most) {
            return most;
        }
        return form.matcher(text).matches() ? FINE : text.length();
    }

    /** What stands ahead of a fault, as far as it is read at all. */
    private static String sound(String text, int fault, int most) {
        return text.substring(0, Math.min(text.length(), Math.min(fault, most)));
    }

    private static int riverFault(String text) {
        int fault = fault(RIVER, text, 80);
        int least = 2;
        int greatest = 60;
        int islets = -1;
        Matcher m = Pattern.compile("\\d{1,2}").matcher(sound(text, fault, 80));
        while (m.find()) {
            int v = Integer.parseInt(m.group());
            if (v < least || v > greatest) {
                return Math.min(fault, m.end() - 1);
            }
            greatest = islets < 0 ? v - 1 : greatest;
            least = islets < 0 ? 1 : v + 1;
            islets++;
        }
        return fault;
    }

    private static int houseFault(String text) {
        int fault = fault(HOUSE, text, 76);
        int people = 0;
        int things = 0;
        Matcher line = Pattern.compile("(?:^|(?<=;))([pt])([a-f])?(\\d{1,2})?(?:\\*\\d>([a-f]))?").matcher(sound(text, fault, 76));
        while (line.find()) {
            boolean thing = line.group(1).equals("t");
            if (thing ? things == 10 : people == 6) {
                return Math.min(fault, line.start());
            }
            int whose = line.group(2) == null ? NONE : line.group(2).charAt(0) - 'a';
            if (thing && whose >= people) {
                return Math.min(fault, line.start(2));
            }
            int v = line.group(3) == null ? 1 : Integer.parseInt(line.group(3));
            if (v == 0 || thing && v > 40) {
                return Math.min(fault, line.end(3) - 1);
            }
            int about = line.group(4) == null ? NONE : line.group(4).charAt(0) - 'a';
            if (about != NONE && (about >= people || about == whose)) {
                return Math.min(fault, line.start(4));
            }
            people += thing ? 0 : 1;
            things += thing ? 1 : 0;
        }
        return fault;
    }

    private static int dayFault(String text) {
        int fault = fault(DAY, text, 60);
        Matcher like = Pattern.compile("c([a-f])\\+\\1").matcher(sound(text, fault, 60));
        return like.find() ? Math.min(fault, like.end() - 1) : fault;
    }

    // ---- drawn texts

    private int draw(int n) {
        return random.nextInt(n);
    }

    private char one(String of) {
        return of.charAt(draw(of.length()));
    }

    /** One sign in three texts is put in, put in another's place, or left out. */
    private String spoilt(StringBuilder s, String of) {
        int at = draw(s.length() + 1);
        int how = draw(9);
        if (how == 0) {
            s.insert(at, one(of));
        } else if (how < 3 && at < s.length()) {
            s.replace(at, at + 1, how == 1 ? "" : "" + one(of));
        }
        return s.substring(0, Math.min(80, s.length()));
    }

    private int due(String kind, String text, int fault, int got, int fine) {
        int want = fault == FINE ? fine : -1 - fault;
        due(kind + " \"" + text + "\"", got, want);
        return want;
    }

    private void rivers() {
        StringBuilder s = new StringBuilder().append(draw(64));
        int at = 0;
        for (int k = draw(8); k > 0; k--) {
            at += draw(9);
            s.append(',').append(draw(9) == 0 ? "0" : "").append(at);
        }
        String text = spoilt(s, "0123456789,,;");
        x = new WordsUnsaid();
        due("river", text, riverFault(text), river(text), (int) text.chars().filter(c -> c == ',').count());
    }

    private String person() {
        return "p" + (draw(30) == 0 ? "0" : draw(4) == 0 ? "0" + (1 + draw(9)) : "" + (1 + draw(99))) + (draw(2) == 0 ? "@" + draw(2) : "");
    }

    private String thing(int people) {
        String words = draw(30) == 0 ? "" + draw(60) : draw(4) == 0 ? "0" + (1 + draw(9)) : "" + (1 + draw(40));
        char whose = (char) ('a' + draw(people));
        char about = (char) ('a' + draw(people));
        boolean told = draw(2) == 0 && (about != whose || draw(9) == 0);
        return "t" + whose + words + "*" + draw(10) + (told ? ">" + about : "");
    }

    private void houses() {
        StringBuilder s = new StringBuilder(person());
        int people = 1;
        int most = draw(4) == 0 ? draw(70) : 70 + draw(14);
        boolean manyThings = draw(2) == 0;
        while (s.length() < most) {
            boolean thing = manyThings ? draw(9) > 0 : draw(3) > 0;
            s.append(';').append(thing || people == 6 && draw(9) > 0 ? thing(people) : person());
            people = Math.min(6, (int) (" " + s).chars().filter(c -> c == 'p').count());
        }
        String text = spoilt(s, "pt@*>;0123456789abcdefg");
        x = new WordsUnsaid();
        due("house", text, houseFault(text), house(text), 1 + (int) text.chars().filter(c -> c == ';').count());
    }

    private String ruleThing(int nested) {
        String minus = draw(5) == 0 ? "-".repeat(1 + draw(3)) : "";
        int kind = draw(nested < 5 ? 4 : 3);
        if (kind == 3) {
            return minus + "(" + ruleSum(nested + 1) + ")";
        }
        return minus + (kind == 0 ? "" + draw(draw(9) == 0 ? 2000 : 1000) : "" + one("ptwynio"));
    }

    private String ruleSum(int nested) {
        StringBuilder s = new StringBuilder(ruleThing(nested));
        for (int k = draw(3); k > 0; k--) {
            s.append(one("+-*/+-*/<>=")).append(ruleThing(nested));
        }
        return s.toString();
    }

    private void rules() {
        StringBuilder s = new StringBuilder(ruleSum(0));
        int most = draw(3) == 0 ? 0 : 30 + draw(14);
        while (s.length() < most) {
            s.append(one("+-*/")).append(ruleThing(0));
        }
        s.setLength(Math.min(s.length(), 44));
        String text = spoilt(s, "ptwynio0123456789+-*/<>=()");
        x = ofRules;
        due("rule", text, text.isEmpty() ? FINE : fault(RULE, text, 40), rule(text), 0);
    }

    private String act() {
        String who = "" + one("abcdef");
        switch (draw(4)) {
            case 0: return "s" + who + one("qrstuvwxyz");
            case 1: return one("vw") + who + one("abcdef") + one("qrstuvwxyz");
            default:
                StringBuilder s = new StringBuilder("c" + who + (draw(2) == 0 ? "+" + one("abcdef") : "") + draw(2) + ":");
                for (int k = draw(draw(9) == 0 ? 7 : 6); k >= 0; k--) {
                    s.append(one("qrstuvwxyz"));
                }
                return s.toString();
        }
    }

    private void days() {
        StringBuilder s = new StringBuilder(act());
        int most = draw(4) == 0 ? draw(50) : 50 + draw(20);
        while (s.length() < most) {
            s.append(';').append(act());
        }
        String text = spoilt(s, "csvw+01:;abcdefgqrz");
        x = new WordsUnsaid();
        int want = due("day", text, text.isEmpty() ? FINE : dayFault(text), day(text), 0);
        if (want == 0) {
            dueRow("day \"" + text + "\", nobody is there", text.isEmpty() ? 0 : 1, 0);
        }
    }
}
