import java.io.IOException;
import java.lang.reflect.Constructor;
import java.lang.reflect.Field;
import java.lang.reflect.Method;
import java.lang.reflect.Modifier;
import java.nio.file.Files;
import java.nio.file.Path;
import java.util.Arrays;
import java.util.List;
import java.util.TreeSet;

/** The face is the document's and no more; the source keeps to LANGUAGE.md; the heaviest run stays small and ends. */
public final class FaceTest {
    private static final String[] METHODS = {
        "int sector(int,int)", "int write(int,int)", "int whole(int,int,int,int)", "int barrier()", "int flush()", "int tell(int)",
        "int undo()", "int swap(int,int)", "int act(int,int)", "long end()", "int letters(long)", "int blank()", "int good(int)",
        "int rule()", "int step()", "int bare()", "int always(int,boolean)", "int holds(int,long)", "int found(int)",
        "long plate(int,int)", "long heal(long)", "long cut(long,int)", "int steady(long)", "int kept(int,int,int)",
        "int broken(int)", "int bounds(int,int,int)", "int safe()", "long shortest(int)", "int cost(int,int)", "int fewest(int)",
        "int needless()", "int order(int,int,int)", "int count(int)", "long digest()"};
    private static int wrong = 0;

    public static void main(String[] args) throws IOException {
        face();
        names();
        source(Path.of(args.length > 0 ? args[0] : "src/main/java/LeftStates.java"));
        heaviestRun();
        if (wrong != 0) {
            System.exit(1);
        }
        System.out.println("the face, the source and the heaviest run are as due");
    }

    private static void must(boolean is, String what) {
        if (!is) {
            wrong++;
            System.out.println("not as due: " + what);
        }
    }

    private static void face() {
        Class<?> face = LeftStates.class;
        must(Modifier.isPublic(face.getModifiers()) && Modifier.isFinal(face.getModifiers()), "a public final class");
        TreeSet<String> seen = new TreeSet<>();
        for (Method m : face.getDeclaredMethods()) {
            if (!Modifier.isPrivate(m.getModifiers())) {
                must(Modifier.isPublic(m.getModifiers()) && !Modifier.isStatic(m.getModifiers()), m.toString());
                String takes = String.join(",", Arrays.stream(m.getParameterTypes()).map(Class::getName).toList());
                seen.add(m.getReturnType().getName() + " " + m.getName() + "(" + takes + ")");
                must(m.getExceptionTypes().length == 0, m + " throws");
            }
        }
        must(seen.equals(new TreeSet<>(List.of(METHODS))), "the methods: " + seen);
        TreeSet<String> constants = new TreeSet<>();
        for (Field f : face.getDeclaredFields()) {
            if (!Modifier.isPrivate(f.getModifiers())) {
                constants.add(Modifier.toString(f.getModifiers()) + " " + f.getType() + " " + f.getName());
            }
        }
        TreeSet<String> due = new TreeSet<>();
        for (String name : new String[] {"NONE", "UNKNOWN", "OUTSIDE", "STATE", "FULL"}) {
            due.add("public static final int " + name);
        }
        must(constants.equals(due), "the constants: " + constants);
        Constructor<?>[] made = face.getDeclaredConstructors();
        must(made.length == 1 && Modifier.isPublic(made[0].getModifiers()) && made[0].getParameterCount() == 0, "the constructor");
        for (Class<?> inside : face.getDeclaredClasses()) {
            must(Modifier.isStatic(inside.getModifiers()) && !Modifier.isPublic(inside.getModifiers()), inside.toString());
            must(inside.getDeclaredFields().length < 40, inside + " has many fields");
        }
        must(face.getDeclaredClasses().length <= 11, "twelve classes at most");
    }

    /** No method of the class or of one inside it bears the name of one of the face. */
    private static void names() {
        TreeSet<String> taken = new TreeSet<>();
        for (String method : METHODS) {
            taken.add(method.substring(method.indexOf(' ') + 1, method.indexOf('(')));
        }
        for (Class<?> inside : LeftStates.class.getDeclaredClasses()) {
            for (Method m : inside.getDeclaredMethods()) {
                must(!taken.contains(m.getName()), m + " bears a name of the face");
                must(m.getParameterCount() <= 7, m + " takes more than seven");
            }
        }
        for (Method m : LeftStates.class.getDeclaredMethods()) {
            must(!Modifier.isPrivate(m.getModifiers()) || !taken.contains(m.getName()), m + " bears a name of the face");
        }
    }

    private static void source(Path path) throws IOException {
        String text = Files.readString(path);
        for (String no : new String[] {"package ", "->", "::", "catch", "finally", "synchronized", "assert ", "instanceof", "System.nano",
            "System.current", "Random", "Thread", "static {", ".equals(", "Exact(", "double", "float", "import java.util.*"}) {
            must(!text.contains(no), "the source has " + no);
        }
        int length = 0;
        String head = "";
        for (String line : text.split("\n")) {
            must(line.chars().allMatch(c -> c >= 32 && c < 127), "signs of " + line);
            must(!line.startsWith("import") || line.equals("import java.util.Arrays;"), line);
            boolean begins = line.matches(" {4,8}\\S.*\\) \\{") && !line.contains(" class ");
            head = begins ? line : head;
            length = begins ? 1 : length + 1;
            must(!line.matches(" {4,8}\\}") || length <= 60, "a long method: " + head);
        }
    }

    /** 512 calls, among them the dearest ones in the widest states, make next to nothing and end soon. */
    private static void heaviestRun() {
        com.sun.management.ThreadMXBean threads =
            (com.sun.management.ThreadMXBean) java.lang.management.ManagementFactory.getThreadMXBean();
        long thread = Thread.currentThread().getId();
        calls();
        long before = threads.getThreadAllocatedBytes(thread);
        long from = System.nanoTime();
        calls();
        long bytes = threads.getThreadAllocatedBytes(thread) - before;
        long millis = (System.nanoTime() - from) / 1000000L;
        System.out.println("the heaviest run: " + bytes + " bytes made, " + millis + " ms");
        must(bytes < 200000L, "what a run makes");
        must(millis < 60000L, "how long a run takes");
    }

    /** All rules hold and all is steady, and each write is needless: nothing ends a search early. */
    private static void calls() {
        LeftStates x = new LeftStates();
        for (int r = 0; r < 6; r++) {
            Help.page(x, "a-b>9|(c-d>9|(e-f>9|(g-h>9|(a-c>9|(b-d>9|!(e-g>9)&a<9)))))");
            must(x.rule() == r, "a long rule");
            x.always(r, true);
        }
        for (int s = 0; s < 8; s++) {
            Help.page(x, "!(a>9|b>9|c>9|d>9|e>9|f>9|g>9|h>9|a+b+c+d+e+f>90):" + (char) ('a' + s) + "=1+1-1+0");
            must(x.step() == s, "a long step");
        }
        for (int n = 0; n < 12; n++) {
            x.write(n % 6, 2);
        }
        must(x.needless() == 4095, "each write is needless");
        int left = 512 - 6 * 11 - 8 * 10 - 13;
        for (int n = 0; n < left; n += 8) {
            x.sector(7, n / 8 % 9);
            x.needless();
            x.safe();
            x.broken(12);
            x.shortest(2);
            x.digest();
            x.kept(5, 12, 0);
            x.plate(12, n);
        }
    }
}
