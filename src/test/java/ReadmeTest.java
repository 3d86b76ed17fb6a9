import com.sun.management.ThreadMXBean;
import java.io.ByteArrayOutputStream;
import java.io.File;
import java.io.PrintStream;
import java.lang.management.ManagementFactory;
import java.lang.reflect.Array;
import java.lang.reflect.Field;
import java.lang.reflect.Method;
import java.lang.reflect.Modifier;
import java.net.URL;
import java.net.URLClassLoader;
import java.nio.charset.StandardCharsets;
import java.nio.file.Files;
import java.nio.file.Path;
import java.util.IdentityHashMap;
import java.util.Map;
import javax.tools.JavaCompiler;
import javax.tools.ToolProvider;

/** README.md: its example compiles and prints what is shown, and what it names is there. */
public final class ReadmeTest {
    private static final Path README = Path.of("README.md");

    public static void main(String[] args) throws Exception {
        String readme = Files.readString(README);
        exampleHolds(readme);
        callsAreTold(readme);
        classesAreTold(readme);
        testsAreTold(readme);
        elementsAreAsTold(readme);
        callsMakeNoObjects();
        Check.finish();
    }

    /** What stands between ``` and the word behind it, and the next ```. */
    private static String block(String readme, String kind) {
        String start = "```" + kind + "\n";
        int from = readme.indexOf(start) + start.length();
        return readme.substring(from, readme.indexOf("```", from));
    }

    private static void exampleHolds(String readme) throws Exception {
        Path directory = Files.createTempDirectory("readme");
        Path source = directory.resolve("Example.java");
        Files.writeString(source, block(readme, "java"));
        JavaCompiler compiler = ToolProvider.getSystemJavaCompiler();
        int failed = compiler.run(null, null, null, "-Xlint:all", "-Werror", "-cp",
            System.getProperty("java.class.path"), "-d", directory.toString(), source.toString());
        Check.due("javac of the example", failed, 0);
        if (failed == 0) {
            Check.due("the example", outputOf(directory), block(readme, "text"));
        }
        for (File file : directory.toFile().listFiles()) {
            file.delete();
        }
        Files.delete(directory);
    }

    private static String outputOf(Path directory) throws Exception {
        ByteArrayOutputStream bytes = new ByteArrayOutputStream();
        PrintStream before = System.out;
        try (URLClassLoader loader = new URLClassLoader(new URL[] {directory.toUri().toURL()})) {
            Method main = loader.loadClass("Example").getMethod("main", String[].class);
            System.setOut(new PrintStream(bytes, true));
            main.invoke(null, (Object) new String[0]);
        } finally {
            System.setOut(before);
        }
        return bytes.toString(StandardCharsets.UTF_8).replace(System.lineSeparator(), "\n");
    }

    private static void callsAreTold(String readme) {
        String told = readme.substring(0, readme.indexOf("```java"));
        for (Method method : TowerComputer.class.getDeclaredMethods()) {
            if (Modifier.isPublic(method.getModifiers())) {
                Check.due(method.getName() + " in the README", told.contains("`" + method.getName() + "("), true);
            }
        }
    }

    private static void classesAreTold(String readme) {
        for (Class<?> inside : TowerComputer.class.getDeclaredClasses()) {
            String name = inside.getSimpleName();
            Check.due(name + " in the README", readme.contains("`" + name + "`"), true);
        }
    }

    private static void testsAreTold(String readme) {
        for (File file : new File("src/test/java").listFiles()) {
            String name = file.getName();
            String told = name.endsWith("Test.java") ? name.replace(".java", "") : name;
            Check.due(name + " in the README", readme.contains("`" + told + "`"), true);
        }
    }

    private static void elementsAreAsTold(String readme) throws Exception {
        long elements = elementsOf(new TowerComputer(), new IdentityHashMap<>());
        Check.due("the number of elements in the README", readme.contains("some 160,000 elements an object"), true);
        Check.due("an object of " + elements + " elements", Math.abs(elements - 160000) < 5000, true);
    }

    /** The fields and elements of all objects and arrays that an object holds, each counted once. */
    private static long elementsOf(Object whole, Map<Object, Object> seen) throws Exception {
        if (whole == null || whole instanceof String || seen.put(whole, whole) != null) {
            return 0;
        }
        if (whole.getClass().isArray()) {
            return Array.getLength(whole);
        }
        long count = 0;
        for (Field field : whole.getClass().getDeclaredFields()) {
            if (!Modifier.isStatic(field.getModifiers())) {
                field.setAccessible(true);
                count += 1 + (field.getType().isPrimitive() ? 0 : elementsOf(field.get(whole), seen));
            }
        }
        return count;
    }

    /** Asked twice, since the Java machine itself makes some objects when code is run for the first time. */
    private static void callsMakeNoObjects() {
        int[] program = packed(Check.inMain("do Output.printString(\"text\"); do Screen.drawCircle(9, 9, 5);"));
        int[] words = packed("(a)\n@a\nD=A\n@b\nM=D;JGT");
        int[] board = packed("CHIP A { IN a; OUT b; PARTS: Nand(a=a, out=c); Dff(in=c, out=b); }");
        TowerComputer x = new TowerComputer();
        callAll(x, program, words, board);
        long before = madeBytes();
        int faults = callAll(x, program, words, board);
        long made = madeBytes() - before;
        Check.due("faults of the three texts", faults, 0);
        Check.due("bytes of objects that calls have made are " + made, made < 1000, true);
    }

    /** 0 on a Java machine that does not count them. */
    private static long madeBytes() {
        if (ManagementFactory.getThreadMXBean() instanceof ThreadMXBean threads
            && threads.isThreadAllocatedMemorySupported() && threads.isThreadAllocatedMemoryEnabled()) {
            return threads.getThreadAllocatedBytes(Thread.currentThread().getId());
        }
        return 0;
    }

    /** A text as numbers for feed(), with blanks behind it. */
    private static int[] packed(String text) {
        int[] numbers = new int[(text.length() + 19) / 20 * 5];
        for (int i = 0; i < 4 * numbers.length; i++) {
            numbers[i / 4] = numbers[i / 4] << 8 | (i < text.length() ? text.charAt(i) : ' ');
        }
        return numbers;
    }

    private static int feed(TowerComputer x, int[] numbers) {
        for (int i = 0; i + 5 <= numbers.length; i += 5) {
            x.feed(numbers[i], numbers[i + 1], numbers[i + 2], numbers[i + 3], numbers[i + 4]);
        }
        return 4 * numbers.length;
    }

    private static int callAll(TowerComputer x, int[] program, int[] words, int[] board) {
        int faults = x.load(feed(x, program)) + x.signs(feed(x, words)) + x.chips(feed(x, board));
        x.keys(feed(x, words));
        x.run(100);
        x.go(100);
        x.fetch();
        x.place();
        x.error();
        for (int what = -1; what <= 8; what++) {
            x.count(what);
            x.register(what);
            x.gates(what);
            x.row(what);
            x.word(2048 + what);
            x.command(what, 0);
            x.code(what);
            x.set(what, what);
            x.store(what);
            x.drive(what, what);
            x.pin(what);
            x.tick();
        }
        return faults;
    }
}
