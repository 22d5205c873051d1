import java.io.File;
import java.io.IOException;
import java.lang.reflect.Field;
import java.lang.reflect.Method;
import java.lang.reflect.Modifier;
import java.net.URL;
import java.net.URLClassLoader;
import java.nio.file.Files;
import java.nio.file.Path;
import javax.tools.JavaCompiler;
import javax.tools.ToolProvider;

/** README.md names all that a reader has to know, and its example is a program that does what it says. */
public final class ReadmeTest {
    public static void main(String[] args) throws Exception {
        if (args.length > 1) {
            String readme = Files.readString(Path.of(args[0]));
            namesTheFace(readme);
            namesTheTests(readme, new File(args[1]));
            runsTheExample(readme);
        }
        Due.end();
    }

    private static void holds(String what, boolean so) {
        Due.is(what, so ? 1 : 0, 1);
    }

    private static void namesTheFace(String readme) {
        for (Method m : IndexedTable.class.getDeclaredMethods()) {
            if (Modifier.isPublic(m.getModifiers())) {
                holds("README names " + m.getName(), readme.contains("`" + m.getName() + "("));
            }
        }
        for (Field f : IndexedTable.class.getDeclaredFields()) {
            if (Modifier.isPublic(f.getModifiers())) {
                holds("README names " + f.getName(), readme.contains("`" + f.getName() + "`"));
            }
        }
    }

    private static void namesTheTests(String readme, File tests) {
        holds("README says how to run the tests", readme.contains("\n    .ci/run\n"));
        for (String name : tests.list()) {
            if (name.endsWith("Test.java")) {
                String test = name.substring(0, name.length() - ".java".length());
                holds("README names " + test, readme.contains("`" + test + "`"));
            }
        }
    }

    private static void runsTheExample(String readme) throws Exception {
        JavaCompiler compiler = ToolProvider.getSystemJavaCompiler();
        if (compiler == null) {
            System.out.println("this machine's java has no compiler: the example is not run");
            return;
        }
        int from = readme.indexOf("```java\n") + "```java\n".length();
        String example = readme.substring(from, readme.indexOf("```", from));
        Path room = Files.createTempDirectory("readme");
        Path source = room.resolve("Example.java");
        Files.writeString(source, "public class Example { public static int[] run() {\n" + example
            + "return new int[] {place, table.info(i, 0), found, table.answer(0), table.asked(0), table.audit()};\n}}\n");
        int failed = compiler.run(null, null, null,
            "-cp", System.getProperty("java.class.path"), "-d", room.toString(), source.toString());
        Due.is("the example compiles", failed, 0);
        if (failed == 0) {
            int[] due = {0, 4, 1, 0, 1, 0};
            int[] got = runIn(room);
            for (int k = 0; k < due.length; k++) {
                Due.is("the example's answer " + k, got[k], due[k]);
            }
        }
        clear(room);
    }

    private static int[] runIn(Path room) throws Exception {
        try (URLClassLoader loader = new URLClassLoader(new URL[] {room.toUri().toURL()})) {
            return (int[]) loader.loadClass("Example").getMethod("run").invoke(null);
        }
    }

    private static void clear(Path room) throws IOException {
        for (File file : room.toFile().listFiles()) {
            Files.delete(file.toPath());
        }
        Files.delete(room);
    }
}
