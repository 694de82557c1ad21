import java.io.IOException;
import java.lang.reflect.InvocationTargetException;
import java.lang.reflect.Method;
import java.lang.reflect.Modifier;
import java.nio.file.Files;
import java.nio.file.Path;
import java.util.List;
import java.util.NoSuchElementException;
import java.util.TreeSet;
import java.util.regex.Matcher;
import java.util.regex.Pattern;
import java.util.stream.Stream;

/** What README.md tells of calls is so, and it names every call and every test. */
public final class ReadmeTest {
    private static final Pattern CALL =
            Pattern.compile("x\\.(\\w+)\\(([^)]*)\\);\\s+// (-?\\d+|true|false|NoSuchElementException)(:.*)?");
    private static final Pattern WRITE = Pattern.compile("write\\(x, \"([^\"]*)\"\\);");
    private static final String MADE = "HundredMenAft x = new HundredMenAft();";

    private static final TreeSet<String> asked = new TreeSet<>();

    public static void main(String[] args) throws IOException, IllegalAccessException {
        List<String> lines = Files.readAllLines(Path.of("README.md"));
        HundredMenAft x = null;
        for (int i = 0; i < lines.size(); i++) {
            String line = lines.get(i);
            if (line.equals(MADE)) {
                x = new HundredMenAft();
            } else if (line.equals("```")) {
                x = null;
            } else if (x != null) {
                goLine(x, "README.md line " + (i + 1), line);
            }
        }
        namesAll(String.join("\n", lines));
        Check.finish("ReadmeTest");
    }

    private static void goLine(HundredMenAft x, String where, String line) throws IllegalAccessException {
        Matcher write = WRITE.matcher(line);
        Matcher call = CALL.matcher(line);
        if (write.matches()) {
            Check.text(x, write.group(1));
            return;
        }
        Check.due(where + " can be read", call.matches(), true);
        if (call.matches()) {
            String got = answer(x, call.group(1), call.group(2));
            Check.due(where + ": " + line + " answers " + got, got.equals(call.group(3)), true);
        }
    }

    private static String answer(HundredMenAft x, String name, String told) throws IllegalAccessException {
        String[] words = told.isEmpty() ? new String[0] : told.split(", ");
        Method call = null;
        for (Method m : HundredMenAft.class.getDeclaredMethods()) {
            if (Modifier.isPublic(m.getModifiers()) && m.getName().equals(name)) {
                call = m;
            }
        }
        if (call == null || call.getParameterCount() != words.length) {
            return "no such call";
        }
        asked.add(name);
        Object[] values = new Object[words.length];
        for (int i = 0; i < words.length; i++) {
            values[i] = value(words[i], call.getParameterTypes()[i]);
        }
        try {
            return String.valueOf(call.invoke(x, values));
        } catch (InvocationTargetException e) {
            boolean none = e.getCause() instanceof NoSuchElementException;
            return none ? "NoSuchElementException" : e.getCause().toString();
        }
    }

    private static Object value(String word, Class<?> type) {
        if (type == boolean.class) {
            return Boolean.valueOf(word);
        }
        return word.equals("HundredMenAft.NONE") ? HundredMenAft.NONE : Integer.parseInt(word);
    }

    private static void namesAll(String page) throws IOException {
        for (Method m : HundredMenAft.class.getDeclaredMethods()) {
            String name = m.getName();
            boolean inRun = asked.contains(name) || name.equals("sign") || name.equals("end");
            Check.due("a run asks " + name, inRun || !Modifier.isPublic(m.getModifiers()), true);
        }
        try (Stream<Path> files = Files.list(Path.of("src/test/java"))) {
            for (Path file : files.toList()) {
                String name = file.getFileName().toString().replace(".java", "");
                Check.due("README.md names " + name, !name.endsWith("Test") || page.contains(name), true);
            }
        }
    }
}
