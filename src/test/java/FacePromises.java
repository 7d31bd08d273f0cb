import java.io.IOException;
import java.lang.reflect.Constructor;
import java.lang.reflect.Field;
import java.lang.reflect.Member;
import java.lang.reflect.Method;
import java.lang.reflect.Modifier;
import java.nio.file.Files;
import java.nio.file.Path;
import java.util.Set;
import java.util.TreeSet;

/** The public face, word for word as ../shared/DOC.md tells it, and what of ../shared/LANGUAGE.md can be seen from outside. */
public final class FacePromises extends Checks {
    public static void main(String[] args) throws IOException {
        FacePromises t = new FacePromises();
        t.face();
        t.classes();
        t.words();
        t.finish("FacePromises");
    }

    private static final String[] FACE = {"int sign(int)", "boolean end(int)", "int river()", "int house()", "int rule()",
        "int person(int,int)!", "int thing(int,int)!", "int islet(int)", "int hold(int,int)", "int sheet(int,int,int,int)",
        "int cross(int,int,int)", "int look(int,int,int)", "int say(int,int)", "int whisper(int,int,int)", "int sell(int,int,int)",
        "int day()", "int undo()", "int far(int,int)", "int keeps(int,int)", "int fewest(int,int)", "int rows(int,int)",
        "int back(int,int)", "int exact(int,int)", "int chance(int,int)", "int party(int)", "int pool(int,int)", "int known(int)",
        "int sayable(int)", "int apart()", "int spared()", "int ashore(int,int)", "int about(int,int)", "int bargain(int,int)",
        "int years(int,int)", "boolean keep(int)", "boolean again(int)", "int count(int)", "int row(int)!"};

    private static boolean isSeen(Member m) {
        return !Modifier.isPrivate(m.getModifiers()) && !m.isSynthetic();
    }

    private static String told(Method m) {
        StringBuilder s = new StringBuilder(m.getReturnType().getName()).append(' ').append(m.getName()).append('(');
        for (Class<?> p : m.getParameterTypes()) {
            s.append(s.charAt(s.length() - 1) == '(' ? "" : ",").append(p.getName());
        }
        s.append(')');
        for (Class<?> e : m.getExceptionTypes()) {
            s.append(e == java.util.NoSuchElementException.class ? "!" : "?");
        }
        return (Modifier.isPublic(m.getModifiers()) ? "" : "not public: ") + (Modifier.isStatic(m.getModifiers()) ? "static " : "") + s;
    }

    private void face() {
        Set<String> want = new TreeSet<>(Set.of(FACE));
        Set<String> got = new TreeSet<>();
        Set<String> names = new TreeSet<>();
        for (Method m : WordsUnsaid.class.getDeclaredMethods()) {
            if (isSeen(m)) {
                got.add(told(m));
                names.add(m.getName());
            }
        }
        for (String m : want) due("the face has " + m, got.contains(m), true);
        for (String m : got) due("the face may have " + m, want.contains(m), true);
        for (Method m : WordsUnsaid.class.getDeclaredMethods()) {
            due("a name of its own: " + m, isSeen(m) || !names.contains(m.getName()), true);
        }
        for (Field f : WordsUnsaid.class.getDeclaredFields()) {
            due("no other field: " + f, isSeen(f), f.getName().equals("NONE"));
        }
        Constructor<?>[] made = WordsUnsaid.class.getDeclaredConstructors();
        due("one constructor", made.length, 1);
        due("it is public", Modifier.isPublic(made[0].getModifiers()), true);
        due("without parameters", made[0].getParameterCount(), 0);
        due("the class is public and final", WordsUnsaid.class.getModifiers() & 17, 17);
    }

    private void classes() {
        Class<?>[] inside = WordsUnsaid.class.getDeclaredClasses();
        due("some twelve classes", inside.length <= 11, true);
        for (Class<?> c : inside) {
            due(c + " is static", Modifier.isStatic(c.getModifiers()) && !Modifier.isPublic(c.getModifiers()), true);
            int fields = 0;
            for (Field f : c.getDeclaredFields()) {
                boolean fixed = Modifier.isStatic(f.getModifiers());
                fields += fixed ? 0 : 1;
                due(f + " is a constant", !fixed || Modifier.isFinal(f.getModifiers()), true);
            }
            due(c + " has some twenty fields", fields <= 20, true);
            for (Method m : c.getDeclaredMethods()) {
                due("at most seven parameters: " + m, m.getParameterCount() <= 7, true);
            }
        }
    }

    private void words() throws IOException {
        Path path = Path.of("src/main/java/WordsUnsaid.java");
        String source = Files.readString(path).replaceAll("/\\*(?s:.*?)\\*/", " ").replaceAll("\"[^\"\n]*\"", "\"\"");
        for (char c : source.toCharArray()) {
            if (c > 126) due("a sign outside 1 .. 127", c, 0);
        }
        String[] never = {"finally", "synchronized", "assert", "->", "::", "import java.util.*", "package ", "record ", "catch",
            "Random", "System.", "Thread", "File", "Exact(", "equals(", "hashCode", "toString", " new Integer", "Math.floor", "float",
            "double", "protected", "while (true)", "for (;;)"};
        for (String word : never) {
            due("the source has \"" + word + "\"", source.contains(word), false);
        }
    }
}
