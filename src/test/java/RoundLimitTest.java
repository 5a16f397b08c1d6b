import java.io.File;
import java.lang.reflect.Constructor;
import java.net.URL;
import java.net.URLClassLoader;
import java.nio.file.Files;
import java.nio.file.Path;
import java.util.Comparator;
import java.util.stream.Stream;
import javax.tools.ToolProvider;

/**
 * Promises 15 and 16 where no HOUSES are known to lead: circles, 200 changes, and no order in which none would
 * change. Here a copy of the class is asked, in which RoundPath says who WOULD CHANGE; all else is as it stands.
 */
public final class RoundLimitTest {
    private static final Check check = new Check();
    private static final String ASKED = "private boolean wouldChange(int place, int behind) {";

    private final Object object;

    private RoundLimitTest(Class<?> copy, int houses) throws ReflectiveOperationException {
        Constructor<?> constructor = copy.getConstructor();
        object = constructor.newInstance();
        for (int h = 0; h < houses; h++) {
            call("feed", 0x61000000, 0, 0, 0, 0);
            object.getClass().getMethod("end", int.class).invoke(object, 1);
            call("house", 9, 9, 9);
        }
    }

    public static void main(String[] args) throws Exception {
        Path work = Files.createTempDirectory("round");
        try {
            Class<?> copy = compile(work);
            promise16AtMost200(copy);
            promise16CircleOfTwo(copy);
            promise16CircleOfAll(copy);
            promise15NoneSettled(copy);
        } finally {
            delete(work);
        }
        check.finish("RoundLimitTest");
    }

    private int call(String name, int... arguments) throws ReflectiveOperationException {
        Class<?>[] types = new Class<?>[arguments.length];
        Object[] values = new Object[arguments.length];
        for (int i = 0; i < arguments.length; i++) {
            types[i] = int.class;
            values[i] = arguments[i];
        }
        return (Integer) object.getClass().getMethod(name, types).invoke(object, values);
    }

    /** Terms 3: "after how many changes none would (200 at most)"; promise 16: NONE if there are "too many". */
    private static void promise16AtMost200(Class<?> copy) throws ReflectiveOperationException {
        for (int changes : new int[] {0, 1, 2, 100, 199, 200, 201, 202, 400}) {
            RoundPath.way(6, changes, false);
            RoundLimitTest x = new RoundLimitTest(copy, 6);
            for (int i = 0; i < 2; i++) {
                check.due("p16 round of " + changes, x.call("round", 0), changes <= 200 ? changes : -1);
                check.due("p16 no circle", x.call("round", 1), 0);
            }
        }
    }

    /** Promise 16: "NONE: a circle", "1 how long the circle is": the way into it doesn't count. */
    private static void promise16CircleOfTwo(Class<?> copy) throws ReflectiveOperationException {
        for (int before : new int[] {0, 1, 2, 50, 197, 198}) {
            RoundPath.way(6, before, true);
            RoundLimitTest x = new RoundLimitTest(copy, 6);
            check.due("p16 a circle behind " + before, x.call("round", 0), -1);
            check.due("p16 its length", x.call("round", 1), 2);
            // What was a circle is none any more, if nobody would change.
            RoundPath.way(6, 3, false);
            check.due("p16 three changes", x.call("round", 0), 3);
            check.due("p16 no circle", x.call("round", 1), 0);
        }
    }

    /** Promise 16: circles through all orders of two to five HOUSES. */
    private static void promise16CircleOfAll(Class<?> copy) throws ReflectiveOperationException {
        int[] lengths = {0, 0, 2, 6, 24, 120};
        for (int houses = 3; houses <= 5; houses++) {
            RoundPath.ring(houses);
            RoundLimitTest x = new RoundLimitTest(copy, houses);
            check.due("p16 a circle of " + houses, x.call("round", 0), -1);
            check.due("p16 its length", x.call("round", 1), lengths[houses]);
        }
    }

    /** Promise 15: "how many" is 0, and there is no first of them: NONE. */
    private static void promise15NoneSettled(Class<?> copy) throws ReflectiveOperationException {
        RoundPath.everywhere();
        for (int houses = 0; houses <= 7; houses++) {
            RoundLimitTest x = new RoundLimitTest(copy, houses);
            check.due("p15 orders of " + houses, x.call("orders", 0), houses < 2 ? 1 : 0);
            for (int i = 0; i <= houses; i++) {
                check.due("p15 place " + i + " of none", x.call("orders", 10 + i), houses == 1 && i == 0 ? 0 : -1);
            }
            check.due("p15 two in a circle", x.call("round", 1), houses < 2 ? 0 : 2);
            check.due("p15 changes", x.call("round", 0), houses < 2 ? 0 : -1);
        }
    }

    private static Class<?> compile(Path work) throws Exception {
        String source = Files.readString(Path.of("src/main/java/DoughDebts.java"));
        if (source.indexOf(ASKED) < 0 || source.indexOf(ASKED) != source.lastIndexOf(ASKED)) {
            System.out.println("RoundLimitTest: the class has not just one place at which it is told who would change");
            System.exit(1);
        }
        Path file = work.resolve("DoughDebts.java");
        Files.writeString(file, source.replace(ASKED, ASKED + " if (true) { return RoundPath.wants(order, place); }"));
        int code = ToolProvider.getSystemJavaCompiler().run(null, null, null, "-nowarn", "-cp",
                System.getProperty("java.class.path"), "-d", work.toString(), file.toString());
        if (code != 0) {
            System.out.println("RoundLimitTest: the copy does not compile");
            System.exit(1);
        }
        return new CopyLoader(work.toUri().toURL()).loadClass("DoughDebts");
    }

    private static void delete(Path work) throws Exception {
        try (Stream<Path> files = Files.walk(work)) {
            files.sorted(Comparator.reverseOrder()).map(Path::toFile).forEach(File::delete);
        }
    }

    /** Takes the class from the copy, all else from where the test is. */
    private static final class CopyLoader extends URLClassLoader {
        CopyLoader(URL copy) {
            super(new URL[] {copy}, RoundLimitTest.class.getClassLoader());
        }

        @Override
        protected Class<?> loadClass(String name, boolean resolve) throws ClassNotFoundException {
            if (!name.startsWith("DoughDebts")) return super.loadClass(name, resolve);
            Class<?> loaded = findLoadedClass(name);
            return loaded != null ? loaded : findClass(name);
        }
    }
}
