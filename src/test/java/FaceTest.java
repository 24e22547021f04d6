import java.lang.reflect.Constructor;
import java.lang.reflect.Field;
import java.lang.reflect.Method;
import java.lang.reflect.Modifier;
import java.nio.file.Files;
import java.nio.file.Path;
import java.util.Arrays;
import java.util.Set;
import java.util.TreeSet;

/** The face of the document and what can be seen from outside of the rules in LANGUAGE.md. */
public final class FaceTest {
    private static final Due DUE = new Due();
    private static final String[] FACE = {
        "int province(int)", "int village(int,int)", "int comes(int,int)", "int moves(int,int)", "int fetches(int,int)",
        "int stocks(int,int)", "int sits(int)", "int sun(int,int)", "int days(int)", "int then(int,int)",
        "int stockThen(int,int)", "int firstCan(int)", "int hungry(int)", "int round()", "int way(int,int)",
        "int sit(int)", "int sitFor(int)", "int move(int,int)", "int fetch(int,int)", "int stepBest(int)",
        "int match(int)", "int feed(int)", "int shade(int)", "int jam(int)", "int chain(int)", "int whereSat(int,int)",
        "int whatIs(int,int,int)", "int two(int,int,int)", "long rain(int,int,int,int)", "long mean(int)",
        "int forged(int)", "int judge(int)", "int years(int,int,int)", "int image()", "int restore()", "int count(int)",
        "int keep(int,int,int,int)", "int row(int,int,int)", "int put(int,int,int)", "long element(int,int)",
        "int copy(int,int,int,int,int)", "int cost(int)", "int toss(int)"
    };
    private static final String[] RULED_OUT = {
        "->", "::", "Exact", "finally", "synchronized", "assert", "package ", "System.out", "currentTime", "nanoTime",
        "Random", "protected", "getMessage", "hashCode", "@Suppress", "var ", "HashMap", "Byte.", "Short."
    };

    public static void main(String[] args) throws Exception {
        face();
        members(ChairOnTheRoad.class);
        inside();
        words();
        DUE.end();
    }

    private static String signature(Method m) {
        StringBuilder s = new StringBuilder(m.getReturnType().getSimpleName()).append(' ').append(m.getName()).append('(');
        for (int i = 0; i < m.getParameterCount(); i++) {
            s.append(i == 0 ? "" : ",").append(m.getParameterTypes()[i].getSimpleName());
        }
        return s.append(')').toString();
    }

    private static void face() throws NoSuchMethodException {
        Set<String> due = new TreeSet<>(Arrays.asList(FACE));
        Set<String> got = new TreeSet<>();
        Set<String> names = new TreeSet<>();
        for (Method m : ChairOnTheRoad.class.getDeclaredMethods()) {
            if (Modifier.isPublic(m.getModifiers())) {
                got.add(signature(m));
                names.add(m.getName());
            }
        }
        DUE.is("the public methods " + got, got.equals(due) ? 1 : 0, 1);
        for (Method m : ChairOnTheRoad.class.getDeclaredMethods()) {
            boolean hidden = !Modifier.isPublic(m.getModifiers());
            DUE.is("private and named as the face: " + m, hidden && names.contains(m.getName()) ? 1 : 0, 0);
        }
        Constructor<?>[] made = ChairOnTheRoad.class.getDeclaredConstructors();
        DUE.is("constructors", made.length, 1);
        DUE.is("public constructor", Modifier.isPublic(made[0].getModifiers()) ? made[0].getParameterCount() : -1, 0);
        Class<?>[] thrown = ChairOnTheRoad.class.getMethod("element", int.class, int.class).getExceptionTypes();
        DUE.is("element's exceptions", thrown.length, 2);
        DUE.is("the class is public and final", ChairOnTheRoad.class.getModifiers() & (Modifier.PUBLIC | Modifier.FINAL),
            Modifier.PUBLIC | Modifier.FINAL);
    }

    private static void members(Class<?> c) {
        for (Field f : c.getDeclaredFields()) {
            DUE.is("private: " + f, Modifier.isPrivate(f.getModifiers()) ? 1 : 0, 1);
            boolean kept = !Modifier.isStatic(f.getModifiers()) || Modifier.isFinal(f.getModifiers());
            DUE.is("static and not final: " + f, kept ? 1 : 0, 1);
        }
        for (Method m : c.getDeclaredMethods()) {
            boolean fine = Modifier.isPrivate(m.getModifiers()) || Modifier.isPublic(m.getModifiers());
            DUE.is("private or of the face: " + m, fine ? 1 : 0, 1);
            DUE.is("seven parameters at most: " + m, m.getParameterCount() <= 7 ? 1 : 0, 1);
        }
    }

    private static void inside() {
        Class<?>[] classes = ChairOnTheRoad.class.getDeclaredClasses();
        DUE.is("some twelve classes", classes.length + 1 <= 12 ? 1 : 0, 1);
        for (Class<?> c : classes) {
            DUE.is("static: " + c, Modifier.isStatic(c.getModifiers()) ? 1 : 0, 1);
            boolean shown = Modifier.isPublic(c.getModifiers()) || Modifier.isProtected(c.getModifiers());
            DUE.is("shown: " + c, shown ? 1 : 0, 0);
            DUE.is("some twenty fields: " + c, c.getDeclaredFields().length <= 20 ? 1 : 0, 1);
        }
    }

    private static void words() throws Exception {
        String source = Files.readString(Path.of("src/main/java/ChairOnTheRoad.java"));
        for (String word : RULED_OUT) {
            DUE.is("\"" + word + "\" in the source", source.indexOf(word), -1);
        }
        DUE.is("signs of 1 to 127 alone", source.chars().allMatch(c -> c < 128) ? 1 : 0, 1);
    }
}
