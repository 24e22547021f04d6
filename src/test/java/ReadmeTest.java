import java.lang.reflect.Method;
import java.lang.reflect.Modifier;
import java.nio.file.Files;
import java.nio.file.Path;
import java.util.regex.Matcher;
import java.util.regex.Pattern;

/** README.md: each call of its examples answers what stands behind it, and its table names every call of the face. */
public final class ReadmeTest {
    private static final Due DUE = new Due();
    private static final Pattern CALL = Pattern.compile("^x\\.(\\w+)\\(([^)]*)\\);\\s*// (-?\\d+): ");
    private static final String TEXT = "v19031;v19050;c04;d07;";

    public static void main(String[] args) throws Exception {
        String readme = Files.readString(Path.of("README.md"));
        ChairOnTheRoad x = new ChairOnTheRoad();
        int calls = 0;
        for (String line : readme.split("\n")) {
            Matcher told = CALL.matcher(line);
            if (line.contains(TEXT)) {
                tellText(x);
            } else if (told.find()) {
                DUE.is(line.strip(), answer(x, told.group(1), told.group(2)), Long.parseLong(told.group(3)));
                calls++;
            }
        }
        DUE.is("calls with an answer in README.md", calls, 17);
        DUE.is("the text stands in README.md", readme.contains("\"" + TEXT + "\"") ? 1 : 0, 1);
        everyCallIsNamed(readme);
        DUE.end();
    }

    private static void tellText(ChairOnTheRoad x) {
        DUE.is("row(1, 0, ..)", x.row(1, 0, TEXT.length()), 0);
        for (int i = 0; i < TEXT.length(); i++) {
            DUE.is("put(1, " + i + ", ..)", x.put(1, i, TEXT.charAt(i)), 0);
        }
    }

    private static long answer(ChairOnTheRoad x, String name, String numbers) throws Exception {
        String[] told = numbers.isEmpty() ? new String[0] : numbers.split(", ");
        Class<?>[] types = new Class<?>[told.length];
        Object[] given = new Object[told.length];
        for (int i = 0; i < told.length; i++) {
            types[i] = int.class;
            given[i] = Integer.valueOf(told[i]);
        }
        return ((Number) ChairOnTheRoad.class.getMethod(name, types).invoke(x, given)).longValue();
    }

    /** Of the public methods, each stands in the table. */
    private static void everyCallIsNamed(String readme) {
        for (Method m : ChairOnTheRoad.class.getDeclaredMethods()) {
            if (Modifier.isPublic(m.getModifiers())) {
                DUE.is("README.md names " + m.getName(), readme.contains("`" + m.getName() + "`") ? 1 : 0, 1);
            }
        }
    }
}
