import java.lang.reflect.InvocationTargetException;
import java.lang.reflect.Method;
import java.lang.reflect.Modifier;
import java.util.Arrays;
import java.util.Random;

/** Runs of calls by chance (always the same ones), each answer held against PlainModel's. */
public final class AgainstModelTest {
    private static final int RUNS = 500;
    private static final String[] COSTLY = {"find", "from", "way", "bar", "brief", "briefPrice", "keys", "move"};
    private static final String[] OFTEN = {"hour", "hour", "hour", "bring", "shift", "keep", "again", "tell", "put", "own"};

    public static void main(String[] args) throws ReflectiveOperationException {
        int wrong = 0;
        long calls = 0;
        for (int run = 0; run < RUNS && wrong < 10; run++) {
            Random random = new Random(run);
            BoathouseKey x = new BoathouseKey();
            PlainModel m = new PlainModel();
            StringBuilder told = new StringBuilder();
            int most = 100 + random.nextInt(200);
            for (int i = 0; i < most; i++) {
                calls++;
                String answer = i % 60 == 0 ? newTexts(x, m, random, told) : anyCall(x, m, random, told);
                if (answer != null) {
                    wrong++;
                    System.out.println("run " + run + ": " + told + answer);
                    break;
                }
            }
        }
        System.out.println(calls + " calls against the model, " + wrong + " runs wrong");
        if (wrong != 0) System.exit(1);
    }

    private static String newTexts(BoathouseKey x, PlainModel m, Random random, StringBuilder told) {
        String club = random.nextInt(12) == 0 ? "N" + (1 + random.nextInt(6)) : Texts.anyClub(random);
        String fault = write(x, m, club, told);
        if (x.make() != m.make()) return "make";
        told.setLength(0);
        told.append("club ").append(club).append("; ");
        for (int r = 0; r < 3 && fault == null; r++) {
            fault = write(x, m, Texts.anyRule(random), told);
            if (x.rule(r) != m.rule(r)) return "rule";
        }
        return fault;
    }

    private static String write(BoathouseKey x, PlainModel m, String text, StringBuilder told) {
        told.append("text ").append(text).append("; ");
        if (x.wipe() != m.wipe()) return "wipe";
        for (int i = 0; i < text.length(); i += 5) {
            String part = text.substring(i, Math.min(i + 5, text.length()));
            long v = Texts.packed(part) | 0x7700000000000000L;
            if (x.write(part.length(), v) != m.write(part.length(), v)) return "write";
        }
        return null;
    }

    private static String anyCall(BoathouseKey x, PlainModel m, Random random, StringBuilder told)
            throws ReflectiveOperationException {
        if (random.nextInt(20) == 0) return spoiledText(x, m, random, told);
        Method call = pick(random);
        Object[] values = new Object[call.getParameterCount()];
        for (int i = 0; i < values.length; i++) values[i] = value(call, i, random);
        if (call.getName().equals("own") && random.nextInt(8) != 0) values[0] = random.nextInt(1 << x.count(0));
        Method model = PlainModel.class.getDeclaredMethod(call.getName(), call.getParameterTypes());
        Object due = model.invoke(m, values);
        Object got;
        try {
            got = call.invoke(x, values);
        } catch (InvocationTargetException e) {
            got = e.getCause();
        }
        told.append(call.getName()).append(Arrays.toString(values)).append(" = ").append(got).append("; ");
        return got.equals(due) ? null : "due is " + due;
    }

    private static String spoiledText(BoathouseKey x, PlainModel m, Random random, StringBuilder told) {
        boolean rule = random.nextBoolean();
        String text = rule ? Texts.anyRule(random) : Texts.anyClub(random);
        for (int i = random.nextInt(3); i >= 0; i--) text = Texts.spoiled(random, text);
        String fault = write(x, m, text, told);
        if (fault != null) return fault;
        int got = x.fault(rule);
        if (got != m.fault(rule)) return "fault(" + rule + ") = " + got + ", due is " + m.fault(rule);
        return null;
    }

    private static Method pick(Random random) throws NoSuchMethodException {
        Method[] all = BoathouseKey.class.getDeclaredMethods();
        Arrays.sort(all, (a, b) -> a.toString().compareTo(b.toString()));
        String often = random.nextInt(3) == 0 ? OFTEN[random.nextInt(OFTEN.length)] : null;
        for (int i = 0; i < 10000; i++) {
            Method call = all[random.nextInt(all.length)];
            if (!Modifier.isPublic(call.getModifiers())) continue;
            if (often != null && !call.getName().equals(often)) continue;
            if (Arrays.asList(COSTLY).contains(call.getName()) && random.nextInt(4) != 0) continue;
            if (call.getName().equals("wipe") && random.nextInt(8) != 0) continue;
            return call;
        }
        throw new IllegalStateException();
    }

    /** Mostly right values, by what the argument is for; now and then any other. */
    private static Object value(Method call, int i, Random random) {
        Class<?> type = call.getParameterTypes()[i];
        if (type == boolean.class) return random.nextBoolean();
        if (type == long.class) return random.nextLong();
        if (random.nextInt(30) == 0) return new int[] {-1, 10, 16, 99, 21, 366, Integer.MIN_VALUE, Integer.MAX_VALUE}[random.nextInt(8)];
        String name = call.getName();
        int begin = random.nextInt(3) == 0 ? random.nextInt(4) : 10 + random.nextInt(6);
        boolean ruleFirst = "week ahead outside ever never judge keys move mean dry chance look".contains(name);
        if (ruleFirst && i == 0 || name.equals("hour") || name.equals("put") && i == 0) return random.nextInt(3);
        if (ruleFirst && i == 1 || name.equals("bring") || name.startsWith("brief") && i == 0) return begin;
        if (name.equals("put")) return random.nextInt(366);
        if (name.equals("own")) return random.nextInt(64);
        if (name.equals("keep") || name.equals("again")) return random.nextInt(2);
        if (name.equals("tell") && i == 1 || name.equals("chance") && i == 3) {
            return new int[] {0, 1, 2, 3, 10, 11, 12, 13, 14, 15, 20, 20, 99}[random.nextInt(13)];
        }
        if ((name.equals("session") || name.equals("fits") || name.equals("shift")) && i == 0) return random.nextInt(8);
        if (name.equals("home")) return random.nextInt(6);
        if (name.equals("place") || name.equals("look") && i == 3) return random.nextInt(4);
        if (name.equals("week") || name.equals("ever") || name.equals("live") || name.equals("count")) return random.nextInt(6);
        return random.nextInt(10);
    }
}
