import java.io.IOException;
import java.lang.management.ManagementFactory;
import java.lang.reflect.Constructor;
import java.lang.reflect.Field;
import java.lang.reflect.Method;
import java.lang.reflect.Modifier;
import java.nio.file.Files;
import java.nio.file.Path;
import java.util.Set;
import java.util.TreeSet;
import java.util.regex.Matcher;
import java.util.regex.Pattern;

/** The rules of LANGUAGE.md that a program can look at, the document's face, and that calls make no objects. */
public final class LanguageTest {
    private static final String DOCUMENT = "../shared/DOC.md";
    private static int wrong = 0;

    private static void holds(boolean holds, String what) {
        if (!holds) {
            wrong++;
            System.out.println("not so: " + what);
        }
    }

    public static void main(String[] args) throws IOException {
        face();
        classes(BoathouseKey.class.getDeclaredClasses());
        words(Files.readString(Path.of("src/main/java/BoathouseKey.java")));
        room();
        System.out.println(wrong == 0 ? "the rules are kept" : wrong + " rules are not kept");
        if (wrong != 0) System.exit(1);
    }

    /** The face as the document writes it out: a line each for the class, the constants, the constructor, the methods. */
    private static String[] linesOfTheFace() throws IOException {
        Matcher face = Pattern.compile("(?s)## The public face\\s+```java\n(.*?)```").matcher(Files.readString(Path.of(DOCUMENT)));
        holds(face.find(), "the document has a face");
        return face.group(1).split("\n");
    }

    private static void face() throws IOException {
        Set<String> methods = new TreeSet<>();
        Set<String> constants = new TreeSet<>();
        for (String line : linesOfTheFace()) {
            Matcher method = Pattern.compile("public (int|long) (\\w+)\\((.*)\\);").matcher(line.strip());
            Matcher constant = Pattern.compile("public static final int (.*);").matcher(line.strip());
            if (method.matches()) {
                String types = method.group(3).replaceAll(" \\w+(?=,|$)", "").replace(" ", "");
                methods.add(method.group(1) + " " + method.group(2) + "(" + types + ")");
            } else if (constant.matches()) {
                for (String part : constant.group(1).split(", ")) constants.add("int " + part);
            } else {
                holds(Set.of("public final class BoathouseKey {", "public BoathouseKey();", "}").contains(line.strip()), line);
            }
        }
        holds(methods.size() == 39 && constants.size() == 5, "39 methods, 5 constants: " + methods + constants);
        methods(methods);
        fields(constants);
        Constructor<?>[] made = BoathouseKey.class.getDeclaredConstructors();
        holds(made.length == 1 && Modifier.isPublic(made[0].getModifiers()) && made[0].getParameterCount() == 0, "one constructor");
        holds(BoathouseKey.class.getModifiers() == (Modifier.PUBLIC | Modifier.FINAL), "a public final class");
        holds(BoathouseKey.class.getSuperclass() == Object.class && BoathouseKey.class.getInterfaces().length == 0, "of its own");
    }

    private static void methods(Set<String> due) {
        Set<String> is = new TreeSet<>();
        Set<String> names = new TreeSet<>();
        for (Method m : BoathouseKey.class.getDeclaredMethods()) {
            if (!Modifier.isPublic(m.getModifiers())) continue;
            StringBuilder types = new StringBuilder();
            for (Class<?> c : m.getParameterTypes()) types.append(types.length() == 0 ? "" : ",").append(c);
            is.add(m.getReturnType() + " " + m.getName() + "(" + types + ")");
            names.add(m.getName());
            holds(m.getModifiers() == Modifier.PUBLIC && m.getExceptionTypes().length == 0, "public, and no more: " + m);
        }
        holds(is.equals(due), "the public methods are the document's: " + is);
        for (Method m : BoathouseKey.class.getDeclaredMethods()) {
            int mods = m.getModifiers();
            holds(Modifier.isPublic(mods) || Modifier.isPrivate(mods), "public or private: " + m);
            holds(Modifier.isPublic(mods) || !names.contains(m.getName()), "a name of its own: " + m);
        }
        for (Class<?> inside : BoathouseKey.class.getDeclaredClasses()) {
            for (Method m : inside.getDeclaredMethods()) holds(!names.contains(m.getName()), "a name of its own: " + m);
        }
    }

    private static void fields(Set<String> due) {
        Set<String> is = new TreeSet<>();
        for (Field f : BoathouseKey.class.getDeclaredFields()) {
            int mods = f.getModifiers();
            if (Modifier.isPublic(mods)) is.add(f.getType() + " " + f.getName() + " = " + valueOf(f));
            holds(Modifier.isPublic(mods) || Modifier.isPrivate(mods), "public or private: " + f);
            holds(!Modifier.isStatic(mods) || Modifier.isFinal(mods), "static means final: " + f);
        }
        holds(is.equals(due), "the constants are the document's: " + is);
    }

    private static String valueOf(Field constant) {
        try {
            return String.valueOf(constant.get(null));
        } catch (IllegalAccessException e) {
            return "hidden";
        }
    }

    private static void classes(Class<?>[] inside) {
        holds(inside.length < 12, "some twelve classes");
        checkClass(BoathouseKey.class);
        for (Class<?> c : inside) {
            int mods = c.getModifiers();
            holds(Modifier.isStatic(mods) && !Modifier.isPublic(mods) && !Modifier.isProtected(mods), "static, not seen: " + c);
            checkClass(c);
        }
    }

    private static void checkClass(Class<?> c) {
        int fields = 0;
        for (Field f : c.getDeclaredFields()) if (!Modifier.isStatic(f.getModifiers())) fields++;
        holds(fields <= 20, "some twenty fields: " + c + " has " + fields);
        for (Method m : c.getDeclaredMethods()) holds(m.getParameterCount() <= 7, "seven parameters: " + m);
    }

    private static void words(String source) {
        String code = source.replaceAll("(?s)/\\*.*?\\*/", "").replaceAll("//[^\n]*", "");
        for (String word : "throw try catch finally synchronized assert instanceof Object Exact record double float".split(" ")) {
            holds(!Pattern.compile("\\b" + word + "\\b").matcher(code).find(), "without " + word);
        }
        holds(!code.contains("->") && !code.contains("::"), "no lambda, no method reference");
        Matcher imports = Pattern.compile("import ([^;]*);").matcher(code);
        while (imports.find()) holds(imports.group(1).equals("java.util.Arrays"), "import " + imports.group(1));
        Matcher library = Pattern.compile("\\b(Integer|Math|Arrays|System|Long|String)\\.(\\w+)").matcher(code);
        while (library.find()) {
            holds(Set.of("bitCount", "min", "fill", "arraycopy").contains(library.group(2)), "library: " + library.group());
        }
        holds(!Pattern.compile("while\\s*\\(").matcher(code).find(), "only counted loops");
        for (int i = 0; i < source.length(); i++) holds(source.charAt(i) < 128, "plain signs");
        int begin = -1;
        String[] lines = source.split("\n");
        for (int i = 0; i < lines.length; i++) {
            if (lines[i].matches("( {4}| {8})\\S.*\\) \\{")) begin = i;
            if (lines[i].matches("( {4}| {8})\\}") && begin >= 0) {
                holds(i - begin < 60, "short methods: line " + (begin + 1));
                begin = -1;
            }
        }
    }

    /** After the constructor nothing is made: so any run of calls stays in its room. */
    private static void room() {
        com.sun.management.ThreadMXBean threads = (com.sun.management.ThreadMXBean) ManagementFactory.getThreadMXBean();
        BoathouseKey x = Texts.club("N4R012R134R256R378R099P023P112O107H24F3");
        long id = Thread.currentThread().getId();
        everyCall(x);
        long before = threads.getThreadAllocatedBytes(id);
        for (int i = 0; i < 100; i++) everyCall(x);
        long made = threads.getThreadAllocatedBytes(id) - before;
        holds(made < 20000, "4000 calls make nothing: " + made + " bytes");
        before = threads.getThreadAllocatedBytes(id);
        for (int i = 0; i < 100; i++) new BoathouseKey();
        made = (threads.getThreadAllocatedBytes(id) - before) / 100;
        holds(made < 20000, "an object is small: " + made + " bytes");
    }

    private static long everyCall(BoathouseKey x) {
        long all = x.fault(false) + x.fault(true) + x.make() + x.rule(0) + x.ruled(0, 1) + x.session(0, 0) + x.place(0, 0);
        all += x.wipe() + x.write(2, 'N' << 8 | '4') + x.wipe() + x.home(0) + x.own(1) + x.hour(0) + x.where() + x.bring(10);
        all += x.live(1) + x.keep(0) + x.again(0) + x.week(0, 10, 0) + x.ahead(0, 10, 4) + x.outside(0, 10, 4);
        all += x.ever(0, 10, 2) + x.never(0, 10) + x.tell(0, 10) + x.judge(0, 10) + x.find(1, 1) + x.from(1, 1);
        all += x.way(1, 1, 1) + x.bar() + x.brief(10, 1, 1) + x.briefPrice(10, 1, 1, true) + x.put(0, 77) + x.keys(0, 10);
        all += x.move(0, 10) + x.fits(0, 1) + x.shift(0, 1) + x.mean(0, 10, true) + x.dry(0, 10, true);
        return all + x.chance(0, 10, 4, 0, true) + x.look(0, 10, 4, 0) + x.count(0);
    }
}
