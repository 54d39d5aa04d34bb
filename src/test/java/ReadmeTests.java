import java.io.IOException;
import java.lang.reflect.InvocationTargetException;
import java.lang.reflect.Method;
import java.nio.file.Files;
import java.nio.file.Path;
import java.util.HashSet;
import java.util.Set;
import java.util.regex.Matcher;
import java.util.regex.Pattern;

/** Makes the calls that README.md shows, each with its answer behind it. Runs in the project's folder. */
public final class ReadmeTests {
    private static final Pattern TEXT = Pattern.compile("put\\(tower, \"(.*)\"\\);");
    private static final Pattern CALL = Pattern.compile("tower\\.(\\w+)\\(([-0-9, ]*)\\); *// (true|-?[0-9]+): .*");

    public static void main(String[] args) throws IOException, ReflectiveOperationException {
        BellTower tower = new BellTower();
        Set<String> shown = new HashSet<>(Set.of("feed", "end"));
        for (String line : Files.readAllLines(Path.of("README.md"))) {
            Matcher text = TEXT.matcher(line);
            Matcher call = CALL.matcher(line);
            if (text.matches()) {
                Check.tape(tower, text.group(1));
            } else if (call.matches()) {
                shown.add(call.group(1));
                Check.due(line, call.group(3), answer(tower, call.group(1), call.group(2)));
            } else {
                Check.due("a call in this form: " + line, true, !line.startsWith("tower."));
            }
        }
        for (Method call : BellTower.class.getMethods()) {
            boolean own = call.getDeclaringClass() == BellTower.class;
            Check.due(call.getName() + " is shown", true, !own || shown.contains(call.getName()));
        }
        Check.close("ReadmeTests");
    }

    private static String answer(BellTower tower, String name, String list) throws ReflectiveOperationException {
        String[] words = list.isBlank() ? new String[0] : list.split(",");
        Class<?>[] types = new Class<?>[words.length];
        Object[] numbers = new Object[words.length];
        for (int i = 0; i < words.length; i++) {
            types[i] = int.class;
            numbers[i] = Integer.valueOf(words[i].trim());
        }
        try {
            return String.valueOf(BellTower.class.getMethod(name, types).invoke(tower, numbers));
        } catch (InvocationTargetException e) {
            return "throws." + e.getCause().getClass().getSimpleName();
        }
    }
}
