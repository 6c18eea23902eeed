import java.math.BigInteger;
import java.util.ArrayList;
import java.util.Arrays;
import java.util.List;
import java.util.TreeMap;
import java.util.TreeSet;

/**
 * The document once more, as plainly as it can be told and with none of the program's short cuts: viable texts by
 * trying what may follow, ways by trying all acts, forgetting by branching. Tests hold the program against it.
 */
final class PlainModel {
    static final int UNKNOWN = -1, BAD = -2, LATE = -3, FULL = -4, NONE = -9;

    static final class Club {
        int people = 1;
        int forgets = 0;
        int own = 0;
        List<int[]> sessions = new ArrayList<>();
        TreeMap<Integer, int[]> places = new TreeMap<>();
        int[] homes = new int[6];

        Club copy() {
            Club c = new Club();
            c.people = people;
            c.forgets = forgets;
            c.own = own;
            for (int[] s : sessions) c.sessions.add(s.clone());
            for (Integer p : places.keySet()) c.places.put(p, places.get(p).clone());
            c.homes = homes.clone();
            return c;
        }

        boolean open(int p, int h) {
            int[] q = places.get(p);
            return q != null && q[2] <= h && h <= q[3];
        }

        boolean begin(int b) {
            return places.containsKey(b) || b >= 10 && b < 10 + people;
        }

        List<Integer> begins() {
            List<Integer> all = new ArrayList<>();
            for (int b = 0; b < 30; b++) if (begin(b)) all.add(b);
            return all;
        }

        boolean clash() {
            for (int i = 0; i < sessions.size(); i++)
                for (int j = 0; j < i; j++) {
                    int[] s = sessions.get(i), t = sessions.get(j);
                    for (int h = 0; h < 10; h++)
                        if (s[0] == t[0] && s[1] <= h && h <= s[2] && t[1] <= h && h <= t[2]) return true;
                }
            return false;
        }
    }

    static final class State {
        int hour, key = 10, walked, risk, stood;
        TreeSet<Integer> inside = new TreeSet<>(), outside = new TreeSet<>(), stoodNow = new TreeSet<>();

        State copy() {
            State s = new State();
            s.hour = hour;
            s.key = key;
            s.walked = walked;
            s.risk = risk;
            s.stood = stood;
            s.inside.addAll(inside);
            s.outside.addAll(outside);
            return s;
        }
    }

    static int bits(Iterable<Integer> set) {
        int b = 0;
        for (int i : set) b |= 1 << i;
        return b;
    }

    // ---- an hour, in two halves: up to the act, and the act

    /** Answers the person who must do an act, or -1. */
    static int hourTillAct(Club c, State s) {
        int h = s.hour;
        TreeSet<Integer> trying = new TreeSet<>(s.outside);
        for (int i = 0; i < c.sessions.size(); i++) if (c.sessions.get(i)[1] == h) trying.add(i);
        boolean more = true;
        while (more) {
            more = false;
            for (Integer i : new ArrayList<>(trying)) {
                int person = c.sessions.get(i)[0];
                boolean comes = true;
                if (!s.inside.isEmpty()) {
                    // comes with the others
                } else if ((c.own >> person & 1) == 1) {
                    // its own key; the key stays where it is
                } else if (s.key == 10 + person) {
                    s.key = 20;
                } else if (c.open(s.key, h)) {
                    s.walked += c.places.get(s.key)[0];
                    s.key = 20;
                } else {
                    comes = false;
                }
                if (comes) {
                    trying.remove(i);
                    s.inside.add(i);
                    more = true;
                }
            }
        }
        s.outside = trying;
        s.stoodNow = new TreeSet<>(trying);
        s.stood += trying.size();
        if (c.places.containsKey(s.key)) s.risk += c.places.get(s.key)[1];
        int last = -1;
        for (int i = 0; i < c.sessions.size(); i++)
            if (c.sessions.get(i)[2] == h) {
                s.outside.remove(i);
                if (s.inside.remove(i) && last < 0) last = c.sessions.get(i)[0];
            }
        s.hour = (h + 1) % 10;
        if (s.key != 20 || !s.inside.isEmpty()) return -1;
        for (int[] t : c.sessions)
            if (t[1] == (h + 1) % 10) {
                s.key = 10 + t[0];
                return -1;
            }
        return last;
    }

    static void act(Club c, State s, int last, int act) {
        int h = (s.hour + 9) % 10;
        s.key = 10 + last;
        if (act == 5) {
            for (int d = 1; d <= 10; d++)
                for (int[] t : c.sessions)
                    if (t[1] == (h + d) % 10) {
                        s.key = 10 + t[0];
                        s.walked += c.homes[t[0]];
                        return;
                    }
        } else if (act < 4 && c.open(act, h)) {
            s.key = act;
            s.walked += c.places.get(act)[0];
        }
    }

    static void hourGoes(Club c, State s, int[] rule) {
        int h = s.hour;
        int last = hourTillAct(c, s);
        if (last >= 0) act(c, s, last, rule[h]);
    }

    static State start(int begin) {
        State s = new State();
        s.key = begin;
        return s;
    }

    static State weekOf(Club c, int[] rule, int begin) {
        State s = start(begin);
        for (int h = 0; h < 10; h++) hourGoes(c, s, rule);
        return s;
    }

    /** LEAD, LONG, WALKED, RISK, STOOD of the ring, STOOD of all. */
    static int[] forEver(Club c, int[] rule, int begin) {
        List<Integer> seen = new ArrayList<>();
        List<State> weeks = new ArrayList<>();
        int b = begin;
        while (!seen.contains(b)) {
            seen.add(b);
            weeks.add(weekOf(c, rule, b));
            b = weeks.get(weeks.size() - 1).key;
        }
        int[] r = new int[6];
        r[0] = seen.indexOf(b);
        r[1] = seen.size() - r[0];
        for (int i = 0; i < weeks.size(); i++) {
            if (i >= r[0]) {
                r[2] += weeks.get(i).walked;
                r[3] += weeks.get(i).risk;
                r[4] += weeks.get(i).stood;
            }
            r[5] += weeks.get(i).stood;
        }
        return r;
    }

    static boolean dryForEver(Club c, int[] rule, int begin) {
        return forEver(c, rule, begin)[5] == 0;
    }

    // ---- texts

    static Club readClub(String t) {
        Club c = new Club();
        if (!t.matches("N[1-6](R[0-9]{3}|P[0-3][0-9]{2}|O[0-3][0-9]{2}|H[0-9]{2}|F[1-9])*")) return null;
        c.people = t.charAt(1) - '0';
        TreeSet<Integer> opened = new TreeSet<>(), homed = new TreeSet<>();
        int i = 2;
        while (i < t.length()) {
            char k = t.charAt(i);
            int[] f = new int[3];
            int n = k == 'F' ? 1 : k == 'H' ? 2 : 3;
            for (int j = 0; j < n; j++) f[j] = t.charAt(i + 1 + j) - '0';
            i += n + 1;
            if (k == 'R') {
                if (f[0] >= c.people || f[2] < f[1]) return null;
                c.sessions.add(f);
                if (c.sessions.size() > 8 || c.clash()) return null;
            } else if (k == 'P') {
                if (c.places.put(f[0], new int[] {f[1], f[2], 0, 9}) != null) return null;
            } else if (k == 'O') {
                int[] p = c.places.get(f[0]);
                if (p == null || !opened.add(f[0]) || f[2] < f[1]) return null;
                p[2] = f[1];
                p[3] = f[2];
            } else if (k == 'H') {
                if (f[0] >= c.people || !homed.add(f[0])) return null;
                c.homes[f[0]] = f[1];
            } else {
                if (c.forgets != 0) return null;
                c.forgets = f[0];
            }
        }
        return c;
    }

    static int[] readRule(String t) {
        if (!t.matches("([0-9](P[0-3]|H|N))*(P[0-3]|H|N)")) return null;
        int[] acts = new int[11];
        Arrays.fill(acts, -1);
        int i = 0;
        while (i < t.length()) {
            int h = 10;
            if (Character.isDigit(t.charAt(i))) h = t.charAt(i++) - '0';
            if (acts[h] >= 0) return null;
            char k = t.charAt(i++);
            acts[h] = k == 'H' ? 4 : k == 'N' ? 5 : t.charAt(i++) - '0';
        }
        for (int h = 0; h < 10; h++) if (acts[h] < 0) acts[h] = acts[10];
        return Arrays.copyOf(acts, 10);
    }

    static boolean whole(String t, boolean rule) {
        return rule ? readRule(t) != null : readClub(t) != null;
    }

    static boolean viable(String t, boolean rule) {
        if (whole(t, rule)) return true;
        String[] ends = rule ? new String[] {"H", "0H", "0", "HH"} : new String[] {"N1"};
        for (String e : ends) if (whole(t + e, rule)) return true;
        for (int n = 1; n <= 3 && !rule; n++)
            for (int v = 0; v < (n == 1 ? 10 : n == 2 ? 100 : 1000); v++)
                if (whole(t + String.format("%0" + n + "d", v), false)) return true;
        return false;
    }

    /** A rule's exception may end in H and then an act: so "HH" above. */
    static int faultOf(String t, boolean rule) {
        for (int i = 1; i <= t.length(); i++) if (!viable(t.substring(0, i), rule)) return i - 1;
        return whole(t, rule) ? NONE : t.length();
    }

    // ---- ways

    static final class Best {
        int price = NONE, begin = NONE, through = 0;
        int[] acts;
    }

    static void tryWays(Club c, State s, int h, int begin, int[] acts, int a, int b, Best best) {
        best.through = Math.max(best.through, h);
        if (h == 10) {
            int price = a * s.walked + b * s.risk;
            if (s.key == begin && (best.acts == null || price < best.price)) {
                best.price = price;
                best.begin = begin;
                best.acts = acts.clone();
            }
            return;
        }
        State t = s.copy();
        int last = hourTillAct(c, t);
        if (t.stood > 0) return;
        for (int act = 0; act < (last < 0 ? 1 : 6); act++) {
            State u = t.copy();
            if (last >= 0) act(c, u, last, act);
            acts[h] = act;
            tryWays(c, u, h + 1, begin, acts, a, b, best);
            acts[h] = 0;
        }
    }

    static Best bestWay(Club c, int a, int b) {
        Best best = new Best();
        for (int begin : c.begins()) tryWays(c, start(begin), 0, begin, new int[10], a, b, best);
        return best;
    }

    static int[] shortRule(int number) {
        int[] acts = new int[10];
        Arrays.fill(acts, number < 6 ? number : (number - 6) % 6);
        if (number >= 6) acts[(number - 6) / 36] = (number - 6) / 6 % 6;
        return acts;
    }

    /** Number, price above, below (not yet in least terms). */
    static int[] bestShort(Club c, int begin, int a, int b) {
        int[] best = {NONE, 0, 1};
        for (int n = 0; n < 366; n++) {
            int[] e = forEver(c, shortRule(n), begin);
            int price = a * e[2] + b * e[3];
            if (e[5] == 0 && (best[0] == NONE || price * best[2] < best[1] * e[1])) best = new int[] {n, price, e[1]};
        }
        return best;
    }

    // ---- forgetting

    static final class Spread {
        BigInteger stood = BigInteger.ZERO, dry = BigInteger.ZERO;
        TreeMap<Integer, BigInteger> keys = new TreeMap<>();
    }

    static void spread(Club c, int[] rule, State s, int h, BigInteger weight, int hour, Spread to) {
        if (h == hour) to.keys.merge(s.key, weight.multiply(BigInteger.TEN.pow(10 - h)), BigInteger::add);
        if (h == 10) {
            to.stood = to.stood.add(weight.multiply(BigInteger.valueOf(s.stood)));
            if (s.stood == 0) to.dry = to.dry.add(weight);
            return;
        }
        State t = s.copy();
        int last = hourTillAct(c, t);
        if (last < 0) {
            spread(c, rule, t, h + 1, weight.multiply(BigInteger.TEN), hour, to);
            return;
        }
        boolean forgettable = rule[h] == 5 || rule[h] < 4 && c.open(rule[h], h);
        if (forgettable && c.forgets > 0) {
            State u = t.copy();
            u.key = 10 + last;
            spread(c, rule, u, h + 1, weight.multiply(BigInteger.valueOf(c.forgets)), hour, to);
        }
        act(c, t, last, rule[h]);
        spread(c, rule, t, h + 1, weight.multiply(BigInteger.valueOf(forgettable ? 10 - c.forgets : 10)), hour, to);
    }

    static long part(BigInteger above, BigInteger below, boolean upper) {
        BigInteger g = above.gcd(below);
        return (upper ? above : below).divide(g).longValueExact();
    }

    // ---- the face

    private static final BigInteger ALL = BigInteger.TEN.pow(10);
    StringBuilder text = new StringBuilder();
    Club club = new Club();
    int[][] rules = new int[3][10];
    State now = new State();
    State[] slots = new State[2];
    int[] row = new int[10];

    PlainModel() {
        for (int[] r : rules) Arrays.fill(r, 4);
        Arrays.fill(row, 99);
    }

    static boolean hourIs(int h) {
        return h >= 0 && h <= 9;
    }

    static boolean whereIs(int w) {
        return w >= 0 && w <= 3 || w >= 10 && w <= 15 || w == 20;
    }

    boolean runs(int rule, int begin) {
        return rule >= 0 && rule <= 2 && club.begin(begin);
    }

    static boolean prices(int a, int b) {
        return a >= 0 && a <= 9 && b >= 0 && b <= 9;
    }

    int write(int n, long v) {
        if (n < 1 || n > 8) return BAD;
        if (text.length() + n > 64) return FULL;
        byte[] all = new byte[8];
        for (int i = 7; i >= 0; i--) {
            all[i] = (byte) v;
            v >>= 8;
        }
        for (int i = 8 - n; i < 8; i++) text.append((char) (all[i] & 255));
        return text.length();
    }

    int wipe() {
        int n = text.length();
        text.setLength(0);
        return n;
    }

    int fault(boolean rule) {
        return faultOf(text.toString(), rule);
    }

    int make() {
        Club c = readClub(text.toString());
        if (c == null) return LATE;
        club = c;
        slots = new State[2];
        now = new State();
        Arrays.fill(row, 99);
        return c.people;
    }

    int rule(int rule) {
        if (rule < 0 || rule > 2) return UNKNOWN;
        int[] r = readRule(text.toString());
        if (r == null) return LATE;
        rules[rule] = r;
        int n = 0;
        for (char k : text.toString().replaceAll("P[0-3]", "P").toCharArray()) if (Character.isDigit(k)) n++;
        return n;
    }

    int ruled(int rule, int hour) {
        return rule < 0 || rule > 2 || !hourIs(hour) ? UNKNOWN : rules[rule][hour];
    }

    int session(int session, int what) {
        if (session < 0 || session >= club.sessions.size()) return UNKNOWN;
        return what < 0 || what > 2 ? BAD : club.sessions.get(session)[what];
    }

    int place(int place, int what) {
        if (!club.places.containsKey(place)) return UNKNOWN;
        return what < 0 || what > 3 ? BAD : club.places.get(place)[what];
    }

    int home(int person) {
        return person < 0 || person >= club.people ? UNKNOWN : club.homes[person];
    }

    int own(int people) {
        if ((people & -(1 << club.people)) != 0) return BAD;
        int had = club.own;
        club.own = people;
        return had;
    }

    int hour(int rule) {
        if (rule < 0 || rule > 2) return UNKNOWN;
        int stood = now.stood;
        hourGoes(club, now, rules[rule]);
        return now.stood - stood;
    }

    int where() {
        return now.key;
    }

    int bring(int begin) {
        if (!club.begin(begin)) return UNKNOWN;
        if (now.key == 20) return LATE;
        int was = now.key;
        now.key = begin;
        return was;
    }

    int live(int what) {
        int[] all = {now.hour, bits(now.inside), bits(now.outside), now.walked, now.risk, now.stood};
        return what < 0 || what > 5 ? BAD : all[what];
    }

    int keep(int slot) {
        if (slot < 0 || slot > 1) return UNKNOWN;
        int r = slots[slot] == null ? 1 : 0;
        slots[slot] = now.copy();
        return r;
    }

    int again(int slot) {
        if (slot < 0 || slot > 1) return UNKNOWN;
        if (slots[slot] == null) return LATE;
        now = slots[slot].copy();
        return now.hour;
    }

    int week(int rule, int begin, int what) {
        if (!runs(rule, begin)) return UNKNOWN;
        State s = weekOf(club, rules[rule], begin);
        int[] all = {s.walked, s.risk, s.stood, s.key};
        return what < 0 || what > 3 ? BAD : all[what];
    }

    int ahead(int rule, int begin, int hour) {
        if (!runs(rule, begin) || !hourIs(hour)) return UNKNOWN;
        State s = start(begin);
        while (s.hour != hour) hourGoes(club, s, rules[rule]);
        return s.key;
    }

    int outside(int rule, int begin, int hour) {
        if (!runs(rule, begin) || !hourIs(hour)) return UNKNOWN;
        State s = start(begin);
        while (s.hour != hour) hourGoes(club, s, rules[rule]);
        hourGoes(club, s, rules[rule]);
        return bits(s.stoodNow);
    }

    int ever(int rule, int begin, int what) {
        if (!runs(rule, begin)) return UNKNOWN;
        return what < 0 || what > 4 ? BAD : forEver(club, rules[rule], begin)[what];
    }

    int never(int rule, int begin) {
        if (!runs(rule, begin)) return UNKNOWN;
        return dryForEver(club, rules[rule], begin) ? 1 : 0;
    }

    int tell(int hour, int where) {
        if (!hourIs(hour)) return UNKNOWN;
        if (!whereIs(where) && where != 99) return BAD;
        int was = row[hour];
        row[hour] = where;
        return was;
    }

    int judge(int rule, int begin) {
        if (!runs(rule, begin)) return UNKNOWN;
        for (int h = 0; h < 10; h++) if (row[h] != 99 && row[h] != ahead(rule, begin, h)) return h;
        return NONE;
    }

    int find(int a, int b) {
        return prices(a, b) ? bestWay(club, a, b).price : BAD;
    }

    int from(int a, int b) {
        return prices(a, b) ? bestWay(club, a, b).begin : BAD;
    }

    int way(int a, int b, int hour) {
        if (!prices(a, b)) return BAD;
        if (!hourIs(hour)) return UNKNOWN;
        Best best = bestWay(club, a, b);
        return best.acts == null ? NONE : best.acts[hour];
    }

    int bar() {
        Best best = bestWay(club, 0, 0);
        return best.acts != null ? 10 : best.through;
    }

    int brief(int begin, int a, int b) {
        if (!club.begin(begin)) return UNKNOWN;
        return prices(a, b) ? bestShort(club, begin, a, b)[0] : BAD;
    }

    long briefPrice(int begin, int a, int b, boolean upper) {
        if (!club.begin(begin)) return UNKNOWN;
        if (!prices(a, b)) return BAD;
        int[] best = bestShort(club, begin, a, b);
        return best[0] == NONE ? NONE : part(BigInteger.valueOf(best[1]), BigInteger.valueOf(best[2]), upper);
    }

    int put(int rule, int number) {
        if (rule < 0 || rule > 2) return UNKNOWN;
        if (number < 0 || number > 365) return BAD;
        rules[rule] = shortRule(number);
        return number < 6 ? 0 : 1;
    }

    int keys(int rule, int begin) {
        if (!runs(rule, begin)) return UNKNOWN;
        int best = -1;
        for (int people = (1 << club.people) - 1; people >= 0; people--) {
            Club c = club.copy();
            c.own = people;
            if (dryForEver(c, rules[rule], begin)
                    && (best < 0 || Integer.bitCount(people) <= Integer.bitCount(best))) best = people;
        }
        return best;
    }

    Club moved(int session, int hour) {
        Club c = club.copy();
        int[] s = c.sessions.get(session);
        s[2] += hour - s[1];
        s[1] = hour;
        return s[1] < 0 || s[2] > 9 || c.clash() ? null : c;
    }

    int move(int rule, int begin) {
        if (!runs(rule, begin)) return UNKNOWN;
        if (dryForEver(club, rules[rule], begin)) return 100;
        for (int by : new int[] {-1, 1, -2, 2})
            for (int s = 0; s < club.sessions.size(); s++) {
                Club c = moved(s, club.sessions.get(s)[1] + by);
                if (c != null && dryForEver(c, rules[rule], begin)) return 10 * s + 2 + by;
            }
        return NONE;
    }

    int fits(int session, int hour) {
        if (session < 0 || session >= club.sessions.size() || !hourIs(hour)) return UNKNOWN;
        return moved(session, hour) == null ? 0 : 1;
    }

    int shift(int session, int hour) {
        int fits = fits(session, hour);
        if (fits < 1) return fits == 0 ? BAD : fits;
        if (!now.inside.isEmpty() || !now.outside.isEmpty()) return LATE;
        int was = club.sessions.get(session)[1];
        club = moved(session, hour);
        return was;
    }

    Spread spreadOf(int rule, int begin, int hour) {
        Spread to = new Spread();
        spread(club, rules[rule], start(begin), 0, BigInteger.ONE, hour, to);
        return to;
    }

    long mean(int rule, int begin, boolean upper) {
        return runs(rule, begin) ? part(spreadOf(rule, begin, 0).stood, ALL, upper) : UNKNOWN;
    }

    long dry(int rule, int begin, boolean upper) {
        return runs(rule, begin) ? part(spreadOf(rule, begin, 0).dry, ALL, upper) : UNKNOWN;
    }

    long chance(int rule, int begin, int hour, int where, boolean upper) {
        if (!runs(rule, begin) || !hourIs(hour)) return UNKNOWN;
        if (!whereIs(where)) return BAD;
        return part(spreadOf(rule, begin, hour).keys.getOrDefault(where, BigInteger.ZERO), ALL, upper);
    }

    int look(int rule, int begin, int hour, int i) {
        if (!runs(rule, begin) || !hourIs(hour)) return UNKNOWN;
        TreeMap<Integer, BigInteger> keys = spreadOf(rule, begin, hour).keys;
        List<Integer> order = new ArrayList<>();
        for (int p : club.places.keySet()) if (club.open(p, hour) && keys.containsKey(p)) order.add(p);
        order.sort((p, q) -> {
            int m = club.places.get(p)[0], n = club.places.get(q)[0];
            if (m == 0 || n == 0) return m == n ? p - q : m == 0 ? -1 : 1;
            int by = keys.get(q).multiply(BigInteger.valueOf(m)).compareTo(keys.get(p).multiply(BigInteger.valueOf(n)));
            return by != 0 ? by : p - q;
        });
        return i < 0 || i >= order.size() ? NONE : order.get(i);
    }

    int count(int what) {
        int[] all = {club.people, club.sessions.size(), club.places.size(), club.forgets, text.length()};
        return what < 0 || what > 4 ? BAD : all[what];
    }
}
