import java.lang.reflect.Constructor;
import java.lang.reflect.Field;
import java.lang.reflect.Method;
import java.lang.reflect.Modifier;
import java.nio.file.Files;
import java.nio.file.Path;
import java.util.Set;
import java.util.TreeSet;

/** The class's face is the document's, and its text keeps to what ../shared/LANGUAGE.md leaves. */
final class FactorMatchFace {
    private static final String[] FACE = {
        "int constant(int,int,int)IndexOutOfBoundsException,IllegalArgumentException",
        "int variable(int,int,int)IndexOutOfBoundsException,IllegalArgumentException",
        "int multiply(int,int)IndexOutOfBoundsException,IllegalStateException",
        "int rewrite(int)IllegalArgumentException,IllegalStateException",
        "int cancel(int,int)IndexOutOfBoundsException",
        "int set(int,int)IndexOutOfBoundsException,IllegalArgumentException",
        "int append(int)IllegalArgumentException,IllegalStateException",
        "int clearBuffer()",
        "int firstError()",
        "int read(int)IndexOutOfBoundsException,IllegalArgumentException,IllegalStateException",
        "int take(int)IndexOutOfBoundsException",
        "int restore(int)IndexOutOfBoundsException,IllegalStateException",
        "int undo()IllegalStateException",
        "int times(int,int)IndexOutOfBoundsException",
        "int rest(int)IndexOutOfBoundsException",
        "int solutions(int)IndexOutOfBoundsException",
        "long matchers(int)IllegalArgumentException",
        "int value(int,int,int)IndexOutOfBoundsException,IllegalArgumentException",
        "int least(int,int)IndexOutOfBoundsException,IllegalArgumentException",
        "int sums(int,int,int,int)IllegalArgumentException",
        "int count(int)IllegalArgumentException",
        "int setting(int)IndexOutOfBoundsException",
        "long ifMore(int,int)IndexOutOfBoundsException,IllegalArgumentException",
        "int ifRewritten(int,int)IndexOutOfBoundsException,IllegalArgumentException",
        "int shortest(int)IndexOutOfBoundsException",
        "double openShare()",
        "long digest()",
    };
    private static final String[] NOT_LEFT = {
        "import ", "Exact(", "->", "::", "synchronized", "assert ", "finally", "instanceof Object", "catch",
        "Double.", "Float.", "System.out", "System.nano", "System.current", "Random", "Thread", "null", "String.valueOf",
        "Integer.valueOf", "static {", "toString", "hashCode", "equals(",
    };

    public static void main(String[] args) throws Exception {
        Class<FactorMatch> type = FactorMatch.class;
        Check.same("class is public and final", type.getModifiers() & (Modifier.PUBLIC | Modifier.FINAL),
                Modifier.PUBLIC | Modifier.FINAL);
        Constructor<?>[] made = type.getDeclaredConstructors();
        Check.same("constructors", made.length, 1);
        Check.same("constructor is public", Modifier.isPublic(made[0].getModifiers()), true);
        Check.same("constructor's arguments", made[0].getParameterCount(), 0);

        Set<String> open = new TreeSet<>();
        Set<String> openNames = new TreeSet<>();
        for (Method m : type.getDeclaredMethods()) {
            if (!Modifier.isPrivate(m.getModifiers())) {
                open.add(tell(m));
                openNames.add(m.getName());
            }
        }
        Check.same("open methods", open, new TreeSet<>(Set.of(FACE)));
        for (Class<?> inside : type.getDeclaredClasses()) {
            Check.same(inside + " is not public", Modifier.isPublic(inside.getModifiers()), false);
            Check.same(inside + " is static", Modifier.isStatic(inside.getModifiers()), true);
        }
        for (Method m : type.getDeclaredMethods()) {
            if (Modifier.isPrivate(m.getModifiers())) {
                Check.same(m.getName() + " is a name of the face too", openNames.contains(m.getName()), false);
            }
        }
        for (Field f : type.getDeclaredFields()) {
            boolean isFace = f.getName().equals("NONE");
            Check.same(f.getName() + " is private", Modifier.isPrivate(f.getModifiers()), !isFace);
        }
        Check.same("NONE", FactorMatch.NONE, -1);
        textKeepsTheRules();
        Check.end();
    }

    private static String tell(Method m) {
        return m.getReturnType().getSimpleName() + " " + m.getName() + "(" + names(m.getParameterTypes()) + ")"
                + names(m.getExceptionTypes());
    }

    private static String names(Class<?>[] types) {
        StringBuilder all = new StringBuilder();
        for (Class<?> type : types) {
            all.append(all.length() == 0 ? "" : ",").append(type.getSimpleName());
        }
        return all.toString();
    }

    /** Comments and written texts are left out, so that their words do not count. */
    private static void textKeepsTheRules() throws Exception {
        String text = Files.readString(Path.of("src/main/java/FactorMatch.java"));
        text = text.replaceAll("(?s)/\\*.*?\\*/", " ").replaceAll("//[^\n]*", " ").replaceAll("\"[^\"\n]*\"", "\"\"");
        for (String word : NOT_LEFT) {
            Check.same("the text has '" + word + "'", text.contains(word), false);
        }
    }
}
