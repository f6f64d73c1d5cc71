import java.io.ByteArrayOutputStream;
import java.io.IOException;
import java.io.PrintStream;
import java.lang.reflect.Method;
import java.lang.reflect.Modifier;
import java.net.URL;
import java.net.URLClassLoader;
import java.nio.charset.StandardCharsets;
import java.nio.file.Files;
import java.nio.file.Path;
import java.util.regex.Matcher;
import java.util.regex.Pattern;
import javax.tools.ToolProvider;

/** What README.md says of the class holds: its example prints what is told there, and each call is named. */
public final class ReadmeTest {
    private static int wrong;

    private static void holds(boolean it, String what) {
        if (!it) {
            wrong++;
            System.out.println(what);
        }
    }

    /** The first block of a kind. */
    private static String block(String page, String kind) {
        Matcher blocks = Pattern.compile("```" + kind + "\n(.*?)```", Pattern.DOTALL).matcher(page);
        return blocks.find() ? blocks.group(1) : "";
    }

    private static String printed(String source) throws IOException, ReflectiveOperationException {
        Path out = Files.createTempDirectory("readme");
        Path file = out.resolve("Example.java");
        Files.writeString(file, source);
        int code = ToolProvider.getSystemJavaCompiler().run(null, null, null, "-cp",
            System.getProperty("java.class.path"), "-d", out.toString(), file.toString());
        holds(code == 0, "the example can't be compiled");
        ByteArrayOutputStream bytes = new ByteArrayOutputStream();
        PrintStream before = System.out;
        try (URLClassLoader loader = new URLClassLoader(new URL[] {out.toUri().toURL()});
            PrintStream caught = new PrintStream(bytes, true, StandardCharsets.UTF_8)) {
            System.setOut(caught);
            loader.loadClass("Example").getMethod("main", String[].class).invoke(null, (Object) new String[0]);
        } finally {
            System.setOut(before);
            remove(out);
        }
        return bytes.toString(StandardCharsets.UTF_8).replace("\r", "");
    }

    private static void remove(Path directory) {
        for (java.io.File file : directory.toFile().listFiles()) {
            file.delete();
        }
        directory.toFile().delete();
    }

    /** Each call as "name(its parameters as the document names them)". */
    private static void namesAll(String page, String document) {
        int named = 0;
        for (Method method : OneBell.class.getDeclaredMethods()) {
            if (Modifier.isPublic(method.getModifiers())) {
                Matcher face = Pattern.compile("    public \\w+ " + method.getName() + "\\(([^)]*)\\);").matcher(document);
                holds(face.find(), "the document has no " + method.getName());
                String call = method.getName() + "(" + face.group(1).replaceAll("\\w+ (\\w+)", "$1") + ")";
                holds(page.contains("`" + call + "`"), "README.md doesn't name " + call);
                named++;
            }
        }
        holds(named == 46, named + " calls are named");
    }

    public static void main(String[] arguments) throws IOException, ReflectiveOperationException {
        String page = Files.readString(Path.of("README.md"));
        String due = block(page, "text");
        String got = printed(block(page, "java"));
        holds(!due.isEmpty() && got.equals(due), "the example printed\n" + got + "and due is\n" + due);
        namesAll(page, Files.readString(Path.of("../shared/DOC.md")));
        System.out.println(wrong == 0 ? "README.md holds" : wrong + " of README.md do not hold");
        if (wrong != 0) {
            System.exit(1);
        }
    }
}
