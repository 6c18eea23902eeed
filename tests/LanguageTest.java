import java.io.IOException;
import java.lang.management.ManagementFactory;
import java.lang.reflect.Constructor;
import java.lang.reflect.Field;
import java.lang.reflect.Method;
import java.lang.reflect.Modifier;
import java.nio.file.Files;
import java.nio.file.Path;
import java.util.Set;
import java.util.TreeSet;
import java.util.regex.Matcher;
import java.util.regex.Pattern;

/** The rules of LANGUAGE.md that a program can look at, the document's face, and that calls make no objects. */
public final class LanguageTest {
    private static final String FACE = "int write(int,long) int wipe() int fault(boolean) int make() int rule(int) "
        + "int ruled(int,int) int session(int,int) int place(int,int) int home(int) int own(int) int hour(int) int where() "
        + "int bring(int) int live(int) int keep(int) int again(int) int week(int,int,int) int ahead(int,int,int) "
        + "int outside(int,int,int) int ever(int,int,int) int never(int,int) int tell(int,int) int judge(int,int) "
        + "int find(int,int) int from(int,int) int way(int,int,int) int bar() int brief(int,int,int) "
        + "long briefPrice(int,int,int,boolean) int put(int,int) int keys(int,int) int move(int,int) int fits(int,int) "
        + "int shift(int,int) long mean(int,int,boolean) long dry(int,int,boolean) long chance(int,int,int,int,boolean) "
        + "int look(int,int,int,int) int count(int)";
    private static int wrong = 0;

    private static void holds(boolean holds, String what) {
        if (!holds) {
            wrong++;
            System.out.println("not so: " + what);
        }
    }

    public static void main(String[] args) throws IOException {
        face();
        classes(BoathouseKey.class.getDeclaredClasses());
        words(Files.readString(Path.of("src/main/java/BoathouseKey.java")));
        room();
        System.out.println(wrong == 0 ? "the rules are kept" : wrong + " rules are not kept");
        if (wrong != 0) System.exit(1);
    }

    private static void face() {
        Set<String> due = new TreeSet<>();
        for (String part : FACE.replace(") ", ");").split(";")) due.add(part);
        Set<String> is = new TreeSet<>();
        Set<String> names = new TreeSet<>();
        for (Method m : BoathouseKey.class.getDeclaredMethods()) {
            if (!Modifier.isPublic(m.getModifiers())) continue;
            StringBuilder types = new StringBuilder();
            for (Class<?> c : m.getParameterTypes()) types.append(types.length() == 0 ? "" : ",").append(c);
            is.add(m.getReturnType() + " " + m.getName() + "(" + types + ")");
            names.add(m.getName());
        }
        holds(is.equals(due), "the public methods are the document's: " + is);
        for (Method m : BoathouseKey.class.getDeclaredMethods()) {
            int mods = m.getModifiers();
            holds(Modifier.isPublic(mods) || Modifier.isPrivate(mods), "public or private: " + m);
            holds(Modifier.isPublic(mods) || !names.contains(m.getName()), "a name of its own: " + m);
        }
        Set<String> constants = new TreeSet<>();
        for (Field f : BoathouseKey.class.getDeclaredFields()) {
            int mods = f.getModifiers();
            if (Modifier.isPublic(mods)) constants.add(f.getName());
            holds(Modifier.isPublic(mods) || Modifier.isPrivate(mods), "public or private: " + f);
            holds(!Modifier.isStatic(mods) || Modifier.isFinal(mods), "static means final: " + f);
        }
        holds(constants.equals(Set.of("UNKNOWN", "BAD", "LATE", "FULL", "NONE")), "the constants: " + constants);
        Constructor<?>[] made = BoathouseKey.class.getDeclaredConstructors();
        holds(made.length == 1 && Modifier.isPublic(made[0].getModifiers()) && made[0].getParameterCount() == 0, "one constructor");
        holds(Modifier.isFinal(BoathouseKey.class.getModifiers()), "final");
        for (Class<?> inside : BoathouseKey.class.getDeclaredClasses()) {
            for (Method m : inside.getDeclaredMethods()) holds(!names.contains(m.getName()), "a name of its own: " + m);
        }
    }

    private static void classes(Class<?>[] inside) {
        holds(inside.length < 12, "some twelve classes");
        checkClass(BoathouseKey.class);
        for (Class<?> c : inside) {
            holds(Modifier.isStatic(c.getModifiers()), "static: " + c);
            checkClass(c);
        }
    }

    private static void checkClass(Class<?> c) {
        int fields = 0;
        for (Field f : c.getDeclaredFields()) if (!Modifier.isStatic(f.getModifiers())) fields++;
        holds(fields <= 20, "some twenty fields: " + c + " has " + fields);
        for (Method m : c.getDeclaredMethods()) holds(m.getParameterCount() <= 7, "seven parameters: " + m);
    }

    private static void words(String source) {
        String code = source.replaceAll("(?s)/\\*.*?\\*/", "").replaceAll("//[^\n]*", "");
        for (String word : "throw try catch finally synchronized assert instanceof Object Exact record double float".split(" ")) {
            holds(!Pattern.compile("\\b" + word + "\\b").matcher(code).find(), "without " + word);
        }
        holds(!code.contains("->") && !code.contains("::"), "no lambda, no method reference");
        Matcher imports = Pattern.compile("import ([^;]*);").matcher(code);
        while (imports.find()) holds(imports.group(1).equals("java.util.Arrays"), "import " + imports.group(1));
        Matcher library = Pattern.compile("\\b(Integer|Math|Arrays|System|Long|String)\\.(\\w+)").matcher(code);
        while (library.find()) {
            holds(Set.of("bitCount", "min", "fill", "arraycopy").contains(library.group(2)), "library: " + library.group());
        }
        holds(!Pattern.compile("while\\s*\\(").matcher(code).find(), "only counted loops");
        for (int i = 0; i < source.length(); i++) holds(source.charAt(i) < 128, "plain signs");
        int begin = -1;
        String[] lines = source.split("\n");
        for (int i = 0; i < lines.length; i++) {
            if (lines[i].matches("( {4}| {8})\\S.*\\) \\{")) begin = i;
            if (lines[i].matches("( {4}| {8})\\}") && begin >= 0) {
                holds(i - begin < 60, "short methods: line " + (begin + 1));
                begin = -1;
            }
        }
    }

    /** After the constructor nothing is made: so any run of calls stays in its room. */
    private static void room() {
        com.sun.management.ThreadMXBean threads = (com.sun.management.ThreadMXBean) ManagementFactory.getThreadMXBean();
        BoathouseKey x = Texts.club("N4R012R134R256R378R099P023P112O107H24F3");
        long id = Thread.currentThread().getId();
        everyCall(x);
        long before = threads.getThreadAllocatedBytes(id);
        for (int i = 0; i < 100; i++) everyCall(x);
        long made = threads.getThreadAllocatedBytes(id) - before;
        holds(made < 20000, "4000 calls make nothing: " + made + " bytes");
        before = threads.getThreadAllocatedBytes(id);
        for (int i = 0; i < 100; i++) new BoathouseKey();
        made = (threads.getThreadAllocatedBytes(id) - before) / 100;
        holds(made < 20000, "an object is small: " + made + " bytes");
    }

    private static long everyCall(BoathouseKey x) {
        long all = x.fault(false) + x.fault(true) + x.make() + x.rule(0) + x.ruled(0, 1) + x.session(0, 0) + x.place(0, 0);
        all += x.wipe() + x.write(2, 'N' << 8 | '4') + x.wipe() + x.home(0) + x.own(1) + x.hour(0) + x.where() + x.bring(10);
        all += x.live(1) + x.keep(0) + x.again(0) + x.week(0, 10, 0) + x.ahead(0, 10, 4) + x.outside(0, 10, 4);
        all += x.ever(0, 10, 2) + x.never(0, 10) + x.tell(0, 10) + x.judge(0, 10) + x.find(1, 1) + x.from(1, 1);
        all += x.way(1, 1, 1) + x.bar() + x.brief(10, 1, 1) + x.briefPrice(10, 1, 1, true) + x.put(0, 77) + x.keys(0, 10);
        all += x.move(0, 10) + x.fits(0, 1) + x.shift(0, 1) + x.mean(0, 10, true) + x.dry(0, 10, true);
        return all + x.chance(0, 10, 4, 0, true) + x.look(0, 10, 4, 0) + x.count(0);
    }
}
