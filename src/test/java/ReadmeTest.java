import java.io.IOException;
import java.lang.reflect.InvocationTargetException;
import java.lang.reflect.Method;
import java.lang.reflect.Modifier;
import java.nio.file.Files;
import java.nio.file.Path;
import java.util.Arrays;
import java.util.Set;
import java.util.TreeSet;
import java.util.regex.Matcher;
import java.util.regex.Pattern;

/** What README.md tells of the calls: one run on one object, in the order of its lines. */
public final class ReadmeTest {
    private static final Checks CHECKS = new Checks("README.md");
    private static final Pattern LINE = Pattern.compile("atlas\\.(\\w+)\\(([-0-9, ]*)\\);\\s+// ([-\\w]+).*");

    public static void main(String[] args) throws IOException, IllegalAccessException {
        ArcAtlas atlas = new ArcAtlas();
        Set<String> told = new TreeSet<>();
        for (String line : Files.readAllLines(Path.of("README.md"))) {
            if (line.startsWith("atlas.")) {
                Matcher parts = LINE.matcher(line);
                CHECKS.due("a call and its answer: " + line, parts.matches(), true);
                told.add(parts.group(1));
                CHECKS.due(line, answer(atlas, parts.group(1), numbers(parts.group(2))), parts.group(3));
            }
        }
        CHECKS.due("the calls it tells of", told, face());
        CHECKS.finish();
    }

    private static Object[] numbers(String list) {
        return list.isEmpty() ? new Object[0] : Arrays.stream(list.split(", ")).map(Integer::valueOf).toArray();
    }

    private static String answer(ArcAtlas atlas, String name, Object[] with) throws IllegalAccessException {
        try {
            return String.valueOf(call(name).invoke(atlas, with));
        } catch (InvocationTargetException e) {
            return e.getCause().getClass().getSimpleName();
        }
    }

    private static Method call(String name) {
        return Arrays.stream(ArcAtlas.class.getDeclaredMethods())
                .filter(m -> m.getName().equals(name)).findFirst().orElseThrow();
    }

    private static Set<String> face() {
        Set<String> names = new TreeSet<>();
        for (Method method : ArcAtlas.class.getDeclaredMethods()) {
            if (Modifier.isPublic(method.getModifiers())) {
                names.add(method.getName());
            }
        }
        return names;
    }
}
