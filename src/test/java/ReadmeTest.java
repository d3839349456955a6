import java.io.IOException;
import java.nio.file.Files;
import java.nio.file.Path;
import java.util.ArrayList;
import java.util.List;
import java.util.regex.Matcher;
import java.util.regex.Pattern;

/** The example of README.md: each of its calls answers the number that stands behind it. */
public final class ReadmeTest {
    private static final Pattern LINE = Pattern.compile("crews\\.(\\w+)\\((.*)\\);\\s+// (-?\\d+)\\b.*");
    private static final Due due = new Due();

    public static void main(String[] args) throws IOException, ReflectiveOperationException {
        List<String> lines = example();
        due.is("lines", lines.size() > 5 ? 1 : 0, 1);
        due.same("the first line", lines.get(0), "PianoCrews crews = new PianoCrews();");
        PianoCrews crews = new PianoCrews();
        for (String line : lines.subList(1, lines.size())) {
            Matcher parts = LINE.matcher(line);
            due.is("is a call with its answer: " + line, parts.matches() ? 1 : 0, 1);
            if (parts.matches()) {
                due.is(line, answer(crews, parts.group(1), parts.group(2)), Integer.parseInt(parts.group(3)));
            }
        }
        due.end();
    }

    private static List<String> example() throws IOException {
        List<String> lines = new ArrayList<>();
        boolean inside = false;
        for (String line : Files.readAllLines(Path.of("README.md"))) {
            if (line.startsWith("```")) {
                inside = line.equals("```java");
            } else if (inside) {
                lines.add(line);
            }
        }
        return lines;
    }

    private static int answer(PianoCrews crews, String method, String given) throws ReflectiveOperationException {
        String[] values = given.isEmpty() ? new String[0] : given.split(", ");
        Class<?>[] types = new Class<?>[values.length];
        Object[] arguments = new Object[values.length];
        for (int n = 0; n < values.length; n++) {
            boolean wide = values[n].endsWith("L");
            types[n] = wide ? long.class : int.class;
            arguments[n] = wide ? (Object) Long.decode(values[n].replace("L", "")) : (Object) number(values[n]);
        }
        return (Integer) PianoCrews.class.getMethod(method, types).invoke(crews, arguments);
    }

    private static Integer number(String value) throws ReflectiveOperationException {
        return value.startsWith("PianoCrews.")
            ? (Integer) PianoCrews.class.getField(value.substring("PianoCrews.".length())).get(null)
            : Integer.valueOf(value);
    }
}
