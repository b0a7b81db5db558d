import java.lang.reflect.InvocationTargetException;
import java.lang.reflect.Method;
import java.lang.reflect.Modifier;
import java.nio.file.Files;
import java.nio.file.Path;
import java.util.Set;
import java.util.TreeSet;
import java.util.regex.Matcher;
import java.util.regex.Pattern;

/** The calls that README.md shows answer what it says behind them, and no call of the face is left out there. */
final class ReadmeExamples {
    private static final Pattern SHOWN = Pattern.compile(" {4}x\\.(\\w+)\\((.*)\\); *// ((?:throws )?[\\w.-]+).*");

    public static void main(String[] args) throws Exception {
        FactorMatch x = null;
        Set<String> shown = new TreeSet<>();
        for (String line : Files.readAllLines(Path.of("README.md"))) {
            Matcher m = SHOWN.matcher(line);
            if (line.endsWith("x = new FactorMatch();")) {
                x = new FactorMatch();
            } else if (m.matches()) {
                Check.same("README.md: " + line.trim(), answer(x, m.group(1), numbers(m.group(2))), m.group(3));
                shown.add(m.group(1));
            } else {
                Check.same("README.md shows no answer: " + line, line.startsWith("    x."), false);
            }
        }
        Check.same("calls in README.md", shown, face());
        Check.end();
    }

    private static Object[] numbers(String text) {
        if (text.isEmpty()) {
            return new Object[0];
        }
        String[] parts = text.split(", ");
        Object[] all = new Object[parts.length];
        for (int i = 0; i < parts.length; i++) {
            all[i] = parts[i].startsWith("'") ? (int) parts[i].charAt(1) : Integer.parseInt(parts[i]);
        }
        return all;
    }

    private static String answer(FactorMatch x, String name, Object[] args) throws Exception {
        for (Method m : FactorMatch.class.getDeclaredMethods()) {
            if (m.getName().equals(name) && Modifier.isPublic(m.getModifiers())) {
                try {
                    return String.valueOf(m.invoke(x, args));
                } catch (InvocationTargetException e) {
                    return "throws " + e.getCause().getClass().getSimpleName();
                }
            }
        }
        return "no such call";
    }

    private static Set<String> face() {
        Set<String> all = new TreeSet<>();
        for (Method m : FactorMatch.class.getDeclaredMethods()) {
            if (Modifier.isPublic(m.getModifiers())) {
                all.add(m.getName());
            }
        }
        return all;
    }
}
