import java.util.Random;

/** Texts for tests: how they are written into an object, and clubs and rules by chance. */
final class Texts {
    private Texts() {
    }

    /** The text becomes THE TEXT, eight bytes at a time. */
    static void put(BoathouseKey x, String text) {
        x.wipe();
        for (int i = 0; i < text.length(); i += 8) {
            String part = text.substring(i, Math.min(i + 8, text.length()));
            x.write(part.length(), packed(part));
        }
    }

    static long packed(String part) {
        long v = 0;
        for (char c : part.toCharArray()) v = v << 8 | c & 255;
        return v;
    }

    static BoathouseKey club(String text) {
        BoathouseKey x = new BoathouseKey();
        put(x, text);
        if (x.make() < 0) throw new IllegalStateException("no club: " + text);
        return x;
    }

    static void rule(BoathouseKey x, int rule, String text) {
        put(x, text);
        if (x.rule(rule) < 0) throw new IllegalStateException("no rule: " + text);
    }

    static String anyClub(Random random) {
        StringBuilder t = new StringBuilder("N").append(1 + random.nextInt(6));
        int parts = random.nextInt(16);
        for (int i = 0; i < parts && t.length() < 60; i++) {
            String with = t + anyPart(random, t.charAt(1) - '0');
            if (with.length() <= 64 && PlainModel.readClub(with) != null) {
                t.setLength(0);
                t.append(with);
            }
        }
        return t.toString();
    }

    private static String anyPart(Random random, int people) {
        int kind = random.nextInt(16);
        int s = random.nextInt(10);
        int e = Math.min(9, s + random.nextInt(1 + random.nextInt(4)));
        if (kind < 8) return "R" + random.nextInt(people) + s + e;
        if (kind < 11) return "P" + random.nextInt(4) + random.nextInt(10) + random.nextInt(4);
        if (kind < 13) return "O" + random.nextInt(4) + Math.min(s, 4) + (4 + random.nextInt(6));
        if (kind < 15) return "H" + random.nextInt(people) + random.nextInt(10);
        return "F" + (1 + random.nextInt(9));
    }

    static String anyRule(Random random) {
        StringBuilder t = new StringBuilder();
        int exceptions = random.nextInt(1 + random.nextInt(11));
        int used = 0;
        for (int i = 0; i < exceptions; i++) {
            int h = random.nextInt(10);
            if ((used >> h & 1) == 0) t.append(h).append(anyAct(random));
            used |= 1 << h;
        }
        return t.append(anyAct(random)).toString();
    }

    private static String anyAct(Random random) {
        return new String[] {"P0", "P1", "P2", "P3", "H", "N", "N"}[random.nextInt(7)];
    }

    /** A byte is changed, set in, or taken out, or the end is cut off. */
    static String spoiled(Random random, String text) {
        String signs = "N R P O H F 0 1 2 3 4 5 6 7 8 9 N0R0P1";
        StringBuilder t = new StringBuilder(text);
        int at = random.nextInt(text.length() + 1);
        char sign = random.nextInt(20) == 0 ? (char) random.nextInt(256) : signs.charAt(random.nextInt(signs.length()));
        switch (random.nextInt(4)) {
            case 0:
                if (at < t.length()) t.setCharAt(at, sign);
                break;
            case 1:
                t.insert(at, sign);
                break;
            case 2:
                if (at < t.length()) t.deleteCharAt(at);
                break;
            default:
                t.setLength(at);
        }
        if (t.length() > 64) t.setLength(64);
        return t.toString();
    }
}
