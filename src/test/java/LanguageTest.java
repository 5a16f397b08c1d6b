import java.lang.reflect.Field;
import java.lang.reflect.Method;
import java.lang.reflect.Modifier;
import java.nio.file.Files;
import java.nio.file.Path;
import java.util.Arrays;
import java.util.Set;
import java.util.TreeSet;
import java.util.regex.Matcher;
import java.util.regex.Pattern;

/** The rules of LANGUAGE.md that can be seen from outside or by a plain look at the source. */
public final class LanguageTest {
    private static final Check check = new Check();
    private static final String[] FACE = {"int state(int)", "int feed(int,int,int,int,int)", "boolean end(int)",
        "int house(int,int,int)", "boolean give(int,int)", "boolean set(int,int)", "int text()", "int fault(int)",
        "int order(int)", "int days(int)", "int of(int,int)", "int book(int)", "int gain(int)", "int orders(int)",
        "int round(int)", "int least(int)", "int leaven(int,int)", "int part(int,int,int)", "int lent(int,int)",
        "int led(int,int)", "boolean rise(int,int,int)", "long odds(int,int)", "int whose(int)",
        "boolean owe(int,int,int)", "int payments()", "boolean undo()", "boolean image(boolean)", "int look(int)"};

    public static void main(String[] args) throws Exception {
        face();
        source(Files.readString(Path.of("src/main/java/DoughDebts.java")));
        check.finish("LanguageTest");
    }

    private static void face() {
        Set<String> found = new TreeSet<>();
        Set<String> names = new TreeSet<>();
        for (Method m : DoughDebts.class.getDeclaredMethods()) {
            if (Modifier.isPrivate(m.getModifiers())) continue;
            names.add(m.getName());
            String parameters = String.join(",", Arrays.stream(m.getParameterTypes()).map(Class::getName).toList());
            found.add(m.getReturnType() + " " + m.getName() + "(" + parameters + ")");
        }
        check.due("the face's methods", found.equals(new TreeSet<>(Arrays.asList(FACE))), true);
        for (Field f : DoughDebts.class.getDeclaredFields()) {
            if (!Modifier.isPrivate(f.getModifiers())) check.due("field " + f.getName(), f.getName().equals("NONE"), true);
            if (Modifier.isStatic(f.getModifiers())) check.due("final " + f, Modifier.isFinal(f.getModifiers()), true);
        }
        check.due("final", Modifier.isFinal(DoughDebts.class.getModifiers()), true);
        check.due("constructors", DoughDebts.class.getConstructors().length, 1);
        check.due("classes", DoughDebts.class.getDeclaredClasses().length <= 12, true);
        for (Class<?> c : DoughDebts.class.getDeclaredClasses()) {
            check.due("static " + c, Modifier.isStatic(c.getModifiers()), true);
            for (Method m : c.getDeclaredMethods()) {
                check.due("own name for " + m, names.contains(m.getName()), false);
                check.due("parameters of " + m, m.getParameterCount() <= 7, true);
            }
            long fields = Arrays.stream(c.getDeclaredFields()).filter(f -> !Modifier.isStatic(f.getModifiers())).count();
            check.due("fields of " + c, fields <= 20, true);
        }
    }

    private static void source(String text) {
        String code = text.replaceAll("(?s)/\\*.*?\\*/", "").replaceAll("//.*", "").replaceAll("\"[^\"]*\"", "\"\"");
        for (String word : new String[] {"throw", "throws", "try", "catch", "synchronized", "assert", "import",
            "package", "native", "volatile", "transient", "var", "Object", "Exception", "toString", "hashCode"}) {
            Matcher m = Pattern.compile("\\b" + word + "\\b").matcher(code);
            check.due("no '" + word + "'", m.find(), false);
        }
        check.due("no lambda or method reference", code.contains("->") || code.contains("::"), false);
        check.due("plain characters", text.chars().allMatch(c -> c < 128), true);
    }
}
