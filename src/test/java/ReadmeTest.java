import java.io.IOException;
import java.lang.reflect.InvocationTargetException;
import java.lang.reflect.Method;
import java.nio.file.Files;
import java.nio.file.Path;
import java.util.ArrayList;
import java.util.HashSet;
import java.util.List;
import java.util.Set;
import java.util.regex.Matcher;
import java.util.regex.Pattern;

/** README.md shows each call of the face once at least, and the answers that it tells are those of the class. */
final class ReadmeTest {
    private static final Pattern FED = Pattern.compile("feed\\(ferry, \"([^\"]*)\"\\);");
    private static final Pattern ASKED = Pattern.compile("ferry\\.(\\w+)\\(([^)]*)\\);\\s*// (-?\\d+|true|false)\\b.*");

    public static void main(String[] args) throws IOException, ReflectiveOperationException {
        EvenFerry ferry = new EvenFerry();
        Set<String> shown = new HashSet<>(List.of("feed"));
        for (String line : example()) {
            Matcher fed = FED.matcher(line);
            Matcher asked = ASKED.matcher(line);
            if (fed.matches()) {
                Check.feed(ferry, fed.group(1));
            } else if (asked.matches()) {
                shown.add(asked.group(1));
                Check.due(line, String.valueOf(answer(ferry, asked)).equals(asked.group(3)), true);
            } else {
                Check.due("'" + line + "' is a call with its answer", false, true);
            }
        }
        for (Method method : EvenFerry.class.getMethods()) {
            boolean own = method.getDeclaringClass() == EvenFerry.class;
            Check.due(method.getName() + " is shown", !own || shown.contains(method.getName()), true);
        }
        Check.end();
    }

    /** The lines behind the one that makes the object, up to the end of its block. */
    private static List<String> example() throws IOException {
        List<String> lines = new ArrayList<>();
        boolean within = false;
        for (String line : Files.readAllLines(Path.of("README.md"))) {
            within = within && !line.startsWith("```");
            if (within) {
                lines.add(line);
            }
            within = within || line.equals("EvenFerry ferry = new EvenFerry();");
        }
        return lines;
    }

    private static Object answer(EvenFerry ferry, Matcher asked) throws ReflectiveOperationException {
        String[] words = asked.group(2).isEmpty() ? new String[0] : asked.group(2).split(", ");
        for (Method method : EvenFerry.class.getMethods()) {
            if (method.getName().equals(asked.group(1)) && method.getParameterCount() == words.length) {
                return call(ferry, method, words);
            }
        }
        return "no such call";
    }

    private static Object call(EvenFerry ferry, Method method, String[] words) throws ReflectiveOperationException {
        Object[] given = new Object[words.length];
        for (int i = 0; i < words.length; i++) {
            boolean truth = method.getParameterTypes()[i] == boolean.class;
            given[i] = truth ? (Object) Boolean.valueOf(words[i]) : (Object) Integer.valueOf(words[i]);
        }
        try {
            return method.invoke(ferry, given);
        } catch (InvocationTargetException e) {
            return e.getCause();
        }
    }
}
