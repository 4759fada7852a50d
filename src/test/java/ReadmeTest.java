import java.io.IOException;
import java.net.URI;
import java.net.URL;
import java.net.URLClassLoader;
import java.nio.file.Files;
import java.nio.file.Path;
import java.util.List;
import java.util.regex.Matcher;
import java.util.regex.Pattern;
import javax.tools.JavaCompiler;
import javax.tools.SimpleJavaFileObject;
import javax.tools.ToolProvider;

/** The Java that README.md shows compiles, and each answer that it shows is what the class answers. */
public final class ReadmeTest {
    /** A call, and behind it a comment with a number at its head. */
    private static final Pattern SHOWN = Pattern.compile("(\\w+\\.\\w+\\(.*\\)); *// (-?\\d+)(:.*)?");
    private static final int LEAST_SHOWN = 40;
    private static int shown = 0;
    private static int wrong = 0;

    public static void main(String[] args) throws Exception {
        String readme = Files.readString(Path.of("README.md"));
        Path out = Files.createTempDirectory("readme");
        try {
            compile(shownCode(readme), out);
            URL[] where = {out.toUri().toURL()};
            try (URLClassLoader loader = new URLClassLoader(where, ReadmeTest.class.getClassLoader())) {
                loader.loadClass("Shown").getMethod("all").invoke(null);
            }
        } finally {
            Files.deleteIfExists(out.resolve("Shown.class"));
            Files.deleteIfExists(out);
        }
        must(shown >= LEAST_SHOWN, "README.md shows " + LEAST_SHOWN + " answers at least");
        must(readme.contains("bash .ci/run"), "README.md says how to run the tests");
        for (String call : faceCalls()) {
            must(readme.contains("`" + call + "`") || readme.contains("." + call + "("), "README.md names " + call);
        }
        for (Path test : tests()) {
            String name = test.getFileName().toString().replace(".java", "");
            must(readme.contains("`" + name + "`"), "README.md names " + name);
        }
        System.out.println(shown + " answers shown, " + wrong + " wrong");
        if (wrong != 0) {
            System.exit(1);
        }
    }

    private static void must(boolean is, String what) {
        if (!is) {
            wrong++;
            System.out.println("not as due: " + what);
        }
    }

    /** What the code of README.md calls for each answer that it shows. */
    public static void due(String call, long got, long want) {
        shown++;
        must(got == want, call + " answered " + got + ", README.md shows " + want);
    }

    private static List<String> faceCalls() {
        return java.util.Arrays.stream(LeftStates.class.getDeclaredMethods())
            .filter(m -> java.lang.reflect.Modifier.isPublic(m.getModifiers())).map(java.lang.reflect.Method::getName).toList();
    }

    private static List<Path> tests() throws IOException {
        try (var files = Files.list(Path.of("src/test/java"))) {
            return files.filter(f -> f.toString().endsWith(".java")).toList();
        }
    }

    /** A class of all blocks of Java: those that begin with "static" are its methods, the others what it does. */
    private static String shownCode(String readme) {
        StringBuilder methods = new StringBuilder();
        StringBuilder done = new StringBuilder();
        String[] parts = readme.split("```");
        for (int i = 1; i < parts.length; i += 2) {
            String block = parts[i].startsWith("java\n") ? parts[i].substring(5) : "";
            if (block.startsWith("static ")) {
                methods.append(block);
            } else {
                block.lines().forEach(line -> done.append(withLook(line)).append('\n'));
            }
        }
        return "public final class Shown {\n" + methods + "public static void all() {\n" + done + "}\n}\n";
    }

    private static String withLook(String line) {
        Matcher m = SHOWN.matcher(line);
        return m.matches() ? "ReadmeTest.due(\"" + m.group(1) + "\", " + m.group(1) + ", " + m.group(2) + "L);" : line;
    }

    private static void compile(String code, Path out) {
        JavaCompiler compiler = ToolProvider.getSystemJavaCompiler();
        SimpleJavaFileObject source = new SimpleJavaFileObject(URI.create("string:///Shown.java"), SimpleJavaFileObject.Kind.SOURCE) {
            @Override
            public CharSequence getCharContent(boolean ignored) {
                return code;
            }
        };
        List<String> options = List.of("-cp", System.getProperty("java.class.path"), "-d", out.toString());
        if (compiler == null || !compiler.getTask(null, null, null, options, null, List.of(source)).call()) {
            throw new IllegalStateException("what README.md shows does not compile:\n" + code);
        }
    }
}
