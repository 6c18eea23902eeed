import java.util.Arrays;

/** One key for a rowing club: who comes in, who stands outside, and where the key should be left. */
public final class BoathouseKey {
    public static final int UNKNOWN = -1, BAD = -2, LATE = -3, FULL = -4, NONE = -9;

    private static final int TEXT_LIMIT = 64;
    private static final int HOURS = 10;
    private static final int PEOPLE = 6;
    private static final int SESSIONS = 8;
    private static final int PLACES = 4;
    private static final int RULES = 3;
    private static final int SLOTS = 2;

    /** The acts: 0 .. 3 leave the key at that place. */
    private static final int HOME = 4;
    private static final int NEXT = 5;
    private static final int ACTS = 6;

    /** Where the key is: 0 .. 3 a place, PERSON + i with person i, INSIDE; the row tells UNTOLD of an hour that it leaves free. */
    private static final int PERSON = 10;
    private static final int INSIDE = 20;
    private static final int UNTOLD = 99;

    /** Spots number the wheres without gaps, in the same order: places, people (these are the begins), inside. */
    private static final int BEGINS = PLACES + PEOPLE;
    private static final int SPOTS = BEGINS + 1;

    private static final int PRICE_LIMIT = 9;
    private static final int SHORT_RULES = ACTS + HOURS * ACTS * ACTS;
    private static final int NOT_NEEDED = 100;
    private static final int[] MOVES = {-1, 1, -2, 2};

    private final byte[] text = new byte[TEXT_LIMIT];
    private int length = 0;
    private Club club = new Club();
    private Club clubDraft = new Club();
    private final ClubReader clubReader = new ClubReader();
    private final Rule[] rules = new Rule[RULES];
    private final Rule ruleDraft = new Rule();
    private final RuleReader ruleReader = new RuleReader();
    private final Live now = new Live();
    private final Live[] slots = new Live[SLOTS];
    private final boolean[] kept = new boolean[SLOTS];
    private final int[] row = new int[HOURS];
    private final Week plainWeek = new Week();
    private final Ring ring = new Ring();
    private final Steps steps = new Steps();
    private final Ways ways = new Ways(steps);
    private final ShortRules shortRules = new ShortRules(steps);
    private final Chances chances = new Chances();

    public BoathouseKey() {
        for (int i = 0; i < RULES; i++) {
            rules[i] = new Rule();
        }
        for (int i = 0; i < SLOTS; i++) {
            slots[i] = new Live();
        }
        now.startAt(PERSON);
        Arrays.fill(row, UNTOLD);
    }

    // ---- texts

    public int write(int n, long v) {
        if (n < 1 || n > 8) {
            return BAD;
        }
        if (length + n > TEXT_LIMIT) {
            return FULL;
        }
        for (int i = n - 1; i >= 0; i--) {
            text[length] = (byte) (v >>> (8 * i));
            length++;
        }
        return length;
    }

    public int wipe() {
        int was = length;
        length = 0;
        return was;
    }

    public int fault(boolean rule) {
        return rule ? ruleReader.faultIn(text, length, ruleDraft) : clubReader.faultIn(text, length, clubDraft);
    }

    public int make() {
        if (clubReader.faultIn(text, length, clubDraft) != NONE) {
            return LATE;
        }
        Club before = club;
        club = clubDraft;
        clubDraft = before;
        for (int i = 0; i < SLOTS; i++) {
            kept[i] = false;
        }
        Arrays.fill(row, UNTOLD);
        now.startAt(PERSON);
        return club.people;
    }

    public int rule(int rule) {
        if (!isRule(rule)) {
            return UNKNOWN;
        }
        if (ruleReader.faultIn(text, length, ruleDraft) != NONE) {
            return LATE;
        }
        rules[rule].copyOf(ruleDraft);
        return ruleDraft.exceptions;
    }

    public int ruled(int rule, int hour) {
        if (!isRule(rule) || !isHour(hour)) {
            return UNKNOWN;
        }
        return rules[rule].actAt(hour);
    }

    public int session(int session, int what) {
        if (!club.isSession(session)) {
            return UNKNOWN;
        }
        switch (what) {
            case 0:
                return club.person[session];
            case 1:
                return club.first[session];
            case 2:
                return club.last[session];
            default:
                return BAD;
        }
    }

    public int place(int place, int what) {
        if (!club.isPlace(place)) {
            return UNKNOWN;
        }
        switch (what) {
            case 0:
                return club.minutes[place];
            case 1:
                return club.risk[place];
            case 2:
                return club.openFirst[place];
            case 3:
                return club.openLast[place];
            default:
                return BAD;
        }
    }

    public int home(int person) {
        if (!club.isPerson(person)) {
            return UNKNOWN;
        }
        return club.homeMinutes[person];
    }

    public int own(int people) {
        if (people < 0 || people >= 1 << club.people) {
            return BAD;
        }
        int had = club.ownKeys;
        club.ownKeys = people;
        return had;
    }

    // ---- live

    public int hour(int rule) {
        if (!isRule(rule)) {
            return UNKNOWN;
        }
        now.passHour(club, rules[rule].actAt(now.hour), false);
        return Integer.bitCount(now.stoodNow);
    }

    public int where() {
        return now.key;
    }

    public int bring(int begin) {
        if (!club.isBegin(begin)) {
            return UNKNOWN;
        }
        if (now.key == INSIDE) {
            return LATE;
        }
        int was = now.key;
        now.key = begin;
        return was;
    }

    public int live(int what) {
        switch (what) {
            case 0:
                return now.hour;
            case 1:
                return now.inside;
            case 2:
                return now.outside;
            case 3:
                return now.walked;
            case 4:
                return now.risk;
            case 5:
                return now.stood;
            default:
                return BAD;
        }
    }

    public int keep(int slot) {
        if (!isSlot(slot)) {
            return UNKNOWN;
        }
        int answer = kept[slot] ? 0 : 1;
        slots[slot].copyOf(now);
        kept[slot] = true;
        return answer;
    }

    public int again(int slot) {
        if (!isSlot(slot)) {
            return UNKNOWN;
        }
        if (!kept[slot]) {
            return LATE;
        }
        now.copyOf(slots[slot]);
        return now.hour;
    }

    // ---- weeks

    public int week(int rule, int begin, int what) {
        if (!canBegin(rule, begin)) {
            return UNKNOWN;
        }
        if (what < 0 || what > 3) {
            return BAD;
        }
        plainWeek.run(club, rules[rule], begin, 0);
        switch (what) {
            case 0:
                return plainWeek.state.walked;
            case 1:
                return plainWeek.state.risk;
            case 2:
                return plainWeek.state.stood;
            default:
                return plainWeek.state.key;
        }
    }

    public int ahead(int rule, int begin, int hour) {
        if (!canBegin(rule, begin) || !isHour(hour)) {
            return UNKNOWN;
        }
        plainWeek.run(club, rules[rule], begin, 0);
        return plainWeek.keyAhead[hour];
    }

    public int outside(int rule, int begin, int hour) {
        if (!canBegin(rule, begin) || !isHour(hour)) {
            return UNKNOWN;
        }
        plainWeek.run(club, rules[rule], begin, 0);
        return plainWeek.stoodAt[hour];
    }

    public int ever(int rule, int begin, int what) {
        if (!canBegin(rule, begin)) {
            return UNKNOWN;
        }
        if (what < 0 || what > 4) {
            return BAD;
        }
        ring.run(club, rules[rule], begin);
        switch (what) {
            case 0:
                return ring.lead;
            case 1:
                return ring.weeks;
            case 2:
                return ring.walked;
            case 3:
                return ring.risk;
            default:
                return ring.stood;
        }
    }

    public int never(int rule, int begin) {
        if (!canBegin(rule, begin)) {
            return UNKNOWN;
        }
        return ring.nobodyStands(club, rules[rule], begin) ? 1 : 0;
    }

    public int tell(int hour, int where) {
        if (!isHour(hour)) {
            return UNKNOWN;
        }
        if (where != UNTOLD && spotOf(where) < 0) {
            return BAD;
        }
        int was = row[hour];
        row[hour] = where;
        return was;
    }

    public int judge(int rule, int begin) {
        if (!canBegin(rule, begin)) {
            return UNKNOWN;
        }
        plainWeek.run(club, rules[rule], begin, 0);
        for (int h = 0; h < HOURS; h++) {
            if (row[h] != UNTOLD && row[h] != plainWeek.keyAhead[h]) {
                return h;
            }
        }
        return NONE;
    }

    // ---- ways, short rules

    public int find(int a, int b) {
        if (!arePrices(a, b)) {
            return BAD;
        }
        ways.seek(club, a, b);
        return ways.price;
    }

    public int from(int a, int b) {
        if (!arePrices(a, b)) {
            return BAD;
        }
        ways.seek(club, a, b);
        return ways.begin;
    }

    public int way(int a, int b, int hour) {
        if (!arePrices(a, b)) {
            return BAD;
        }
        if (!isHour(hour)) {
            return UNKNOWN;
        }
        ways.seek(club, a, b);
        return ways.acts[hour];
    }

    public int bar() {
        return ways.barringHour(club);
    }

    public int brief(int begin, int a, int b) {
        if (!club.isBegin(begin)) {
            return UNKNOWN;
        }
        if (!arePrices(a, b)) {
            return BAD;
        }
        shortRules.seek(club, begin, a, b);
        return shortRules.number;
    }

    public long briefPrice(int begin, int a, int b, boolean upper) {
        if (!club.isBegin(begin)) {
            return UNKNOWN;
        }
        if (!arePrices(a, b)) {
            return BAD;
        }
        shortRules.seek(club, begin, a, b);
        if (shortRules.number == NONE) {
            return NONE;
        }
        return fraction(shortRules.price, shortRules.weeks, upper);
    }

    public int put(int rule, int number) {
        if (!isRule(rule)) {
            return UNKNOWN;
        }
        if (number < 0 || number >= SHORT_RULES) {
            return BAD;
        }
        rules[rule].setShort(number);
        return rules[rule].exceptions;
    }

    public int keys(int rule, int begin) {
        if (!canBegin(rule, begin)) {
            return UNKNOWN;
        }
        int had = club.ownKeys;
        int found = fewestKeys(rules[rule], begin);
        club.ownKeys = had;
        return found;
    }

    public int move(int rule, int begin) {
        if (!canBegin(rule, begin)) {
            return UNKNOWN;
        }
        if (ring.nobodyStands(club, rules[rule], begin)) {
            return NOT_NEEDED;
        }
        for (int i = 0; i < MOVES.length; i++) {
            for (int s = 0; s < club.sessions; s++) {
                if (helpsToMove(s, MOVES[i], rules[rule], begin)) {
                    return 10 * s + 2 + MOVES[i];
                }
            }
        }
        return NONE;
    }

    public int fits(int session, int hour) {
        if (!club.isSession(session) || !isHour(hour)) {
            return UNKNOWN;
        }
        return club.mayBegin(session, hour) ? 1 : 0;
    }

    public int shift(int session, int hour) {
        if (!club.isSession(session) || !isHour(hour)) {
            return UNKNOWN;
        }
        if (!club.mayBegin(session, hour)) {
            return BAD;
        }
        if (now.inside != 0 || now.outside != 0) {
            return LATE;
        }
        int was = club.first[session];
        club.beginAt(session, hour);
        return was;
    }

    // ---- forgetting

    public long mean(int rule, int begin, boolean upper) {
        if (!canBegin(rule, begin)) {
            return UNKNOWN;
        }
        chances.gather(club, rules[rule], begin, 0);
        return fraction(chances.stood, Chances.ALL, upper);
    }

    public long dry(int rule, int begin, boolean upper) {
        if (!canBegin(rule, begin)) {
            return UNKNOWN;
        }
        chances.gather(club, rules[rule], begin, 0);
        return fraction(chances.nobodyStood, Chances.ALL, upper);
    }

    public long chance(int rule, int begin, int hour, int where, boolean upper) {
        if (!canBegin(rule, begin) || !isHour(hour)) {
            return UNKNOWN;
        }
        int spot = spotOf(where);
        if (spot < 0) {
            return BAD;
        }
        chances.gather(club, rules[rule], begin, hour);
        return fraction(chances.keyAt[spot], Chances.ALL, upper);
    }

    public int look(int rule, int begin, int hour, int i) {
        if (!canBegin(rule, begin) || !isHour(hour)) {
            return UNKNOWN;
        }
        chances.gather(club, rules[rule], begin, hour);
        return chances.placeToLook(club, hour, i);
    }

    public int count(int what) {
        switch (what) {
            case 0:
                return club.people;
            case 1:
                return club.sessions;
            case 2:
                return Integer.bitCount(club.places);
            case 3:
                return club.forgetTenths;
            case 4:
                return length;
            default:
                return BAD;
        }
    }

    // ---- what the calls share

    private boolean canBegin(int rule, int begin) {
        return isRule(rule) && club.isBegin(begin);
    }

    /** Leaves the club's own keys changed: the caller puts them back. */
    private int fewestKeys(Rule rule, int begin) {
        int all = 1 << club.people;
        for (int many = 0; many <= club.people; many++) {
            for (int people = 0; people < all; people++) {
                if (Integer.bitCount(people) == many) {
                    club.ownKeys = people;
                    if (ring.nobodyStands(club, rule, begin)) {
                        return people;
                    }
                }
            }
        }
        return all - 1;
    }

    private boolean helpsToMove(int session, int by, Rule rule, int begin) {
        int was = club.first[session];
        if (!club.mayBegin(session, was + by)) {
            return false;
        }
        club.beginAt(session, was + by);
        boolean helps = ring.nobodyStands(club, rule, begin);
        club.beginAt(session, was);
        return helps;
    }

    private static boolean isHour(int hour) {
        return hour >= 0 && hour < HOURS;
    }

    private static boolean isRule(int rule) {
        return rule >= 0 && rule < RULES;
    }

    private static boolean isSlot(int slot) {
        return slot >= 0 && slot < SLOTS;
    }

    private static boolean arePrices(int a, int b) {
        return a >= 0 && a <= PRICE_LIMIT && b >= 0 && b <= PRICE_LIMIT;
    }

    private static int hourAfter(int hour) {
        return hour + 1 < HOURS ? hour + 1 : 0;
    }

    /** The spot of a where, or -1 if there is no such where. */
    private static int spotOf(int where) {
        if (where >= 0 && where < PLACES) {
            return where;
        }
        if (where >= PERSON && where < PERSON + PEOPLE) {
            return where - PERSON + PLACES;
        }
        return where == INSIDE ? BEGINS : -1;
    }

    private static int whereAt(int spot) {
        if (spot < PLACES) {
            return spot;
        }
        return spot < BEGINS ? spot - PLACES + PERSON : INSIDE;
    }

    private static long fraction(long above, long below, boolean upper) {
        long divisor = greatestDivisor(above, below);
        if (divisor == 0) {
            return 0;
        }
        return (upper ? above : below) / divisor;
    }

    private static long greatestDivisor(long one, long other) {
        long a = one;
        long b = other;
        for (int i = 0; i < 200 && b != 0; i++) {
            long rest = a % b;
            a = b;
            b = rest;
        }
        return a;
    }

    /** A club as it was told, and who has an own key. Sessions and people are kept as bits where they go together. */
    private static final class Club {
        int people = 1;
        int sessions = 0;
        int places = 0;
        int forgetTenths = 0;
        int ownKeys = 0;
        final int[] person = new int[SESSIONS];
        final int[] first = new int[SESSIONS];
        final int[] last = new int[SESSIONS];
        final int[] minutes = new int[PLACES];
        final int[] risk = new int[PLACES];
        /** A place that the club does not have is never open: its last hour lies ahead of its first. */
        final int[] openFirst = new int[PLACES];
        final int[] openLast = new int[PLACES];
        final int[] homeMinutes = new int[PEOPLE];
        /** By hours, so that an hour needs no search: see arrange. */
        final int[] beginning = new int[HOURS];
        final int[] ending = new int[HOURS];
        final int[] comer = new int[HOURS];
        final int[] nextComer = new int[HOURS];

        Club() {
            Arrays.fill(openLast, NONE);
            arrange();
        }

        /** No club yet: without people it is none. */
        void clear() {
            people = 0;
            sessions = 0;
            places = 0;
            forgetTenths = 0;
            ownKeys = 0;
            Arrays.fill(openFirst, 0);
            Arrays.fill(openLast, NONE);
            Arrays.fill(homeMinutes, 0);
        }

        boolean isPerson(int i) {
            return i >= 0 && i < people && i < PEOPLE;
        }

        boolean isSession(int s) {
            return s >= 0 && s < sessions && s < SESSIONS;
        }

        boolean isPlace(int p) {
            return p >= 0 && p < PLACES && (places >> p & 1) != 0;
        }

        boolean isBegin(int begin) {
            return isPlace(begin) || begin >= PERSON && isPerson(begin - PERSON);
        }

        boolean isOpen(int p, int hour) {
            return p >= 0 && p < PLACES && openFirst[p] <= hour && hour <= openLast[p];
        }

        boolean hasOwnKey(int i) {
            return (ownKeys >> i & 1) != 0;
        }

        void addSession(int i, int begin, int end) {
            if (sessions < SESSIONS) {
                person[sessions] = i;
                first[sessions] = begin;
                last[sessions] = end;
                sessions++;
            }
        }

        /** A place is always open till its hours are told. */
        void addPlace(int p, int minutesToIt, int riskThere) {
            if (p >= 0 && p < PLACES) {
                places |= 1 << p;
                minutes[p] = minutesToIt;
                risk[p] = riskThere;
                openFirst[p] = 0;
                openLast[p] = HOURS - 1;
            }
        }

        void openBetween(int p, int begin, int end) {
            if (isPlace(p)) {
                openFirst[p] = begin;
                openLast[p] = end;
            }
        }

        boolean mayBegin(int s, int hour) {
            if (!isSession(s) || !isHour(hour)) {
                return false;
            }
            int end = hour + last[s] - first[s];
            if (end >= HOURS) {
                return false;
            }
            for (int o = 0; o < sessions; o++) {
                if (o != s && person[o] == person[s] && first[o] <= end && hour <= last[o]) {
                    return false;
                }
            }
            return true;
        }

        void beginAt(int s, int hour) {
            if (isSession(s)) {
                last[s] += hour - first[s];
                first[s] = hour;
                arrange();
            }
        }

        /** Backwards over the sessions, so that the least of an hour stays as its comer. */
        void arrange() {
            Arrays.fill(beginning, 0);
            Arrays.fill(ending, 0);
            Arrays.fill(comer, NONE);
            for (int s = sessions - 1; s >= 0; s--) {
                if (isHour(first[s]) && isHour(last[s])) {
                    beginning[first[s]] |= 1 << s;
                    ending[last[s]] |= 1 << s;
                    comer[first[s]] = person[s];
                }
            }
            // Twice round the week: the second time each hour knows who comes beyond the week's end.
            int next = NONE;
            for (int i = 2 * HOURS - 1; i >= 0; i--) {
                int hour = i % HOURS;
                nextComer[hour] = next;
                if (comer[hour] != NONE) {
                    next = comer[hour];
                }
            }
        }

        /** The sessions that have begun ahead of an hour and not ended. */
        int under(int hour) {
            int under = 0;
            for (int s = 0; s < sessions; s++) {
                if (first[s] < hour && hour <= last[s]) {
                    under |= 1 << s;
                }
            }
            return under;
        }

        /** The person of the least of these sessions, or NONE. */
        int personOfLeast(int bits) {
            for (int s = 0; s < sessions; s++) {
                if ((bits >> s & 1) != 0) {
                    return person[s];
                }
            }
            return NONE;
        }
    }

    /** Reads a club byte by byte: each byte is taken only if some club begins with all that was taken so far. */
    private static final class ClubReader {
        private static final int ALL_HOURS = (1 << HOURS) - 1;
        private static final int ALL_PLACES = (1 << PLACES) - 1;

        /** The letter of the part that is being read, 0 between parts; its figures so far. */
        private int letter = 0;
        private int figures = 0;
        private int one = 0;
        private int two = 0;
        private int openTold = 0;
        private int homesTold = 0;
        private final int[] busy = new int[PEOPLE];

        int faultIn(byte[] text, int length, Club draft) {
            draft.clear();
            letter = 0;
            openTold = 0;
            homesTold = 0;
            Arrays.fill(busy, 0);
            for (int i = 0; i < length && i < text.length; i++) {
                if (!takes(text[i], draft)) {
                    return i;
                }
            }
            if (letter != 0 || draft.people == 0) {
                return length;
            }
            draft.arrange();
            return NONE;
        }

        private boolean takes(int sign, Club draft) {
            if (letter == 0) {
                boolean follows = mayFollow(sign, draft);
                letter = follows ? sign : 0;
                figures = 0;
                return follows;
            }
            int figure = sign - '0';
            if (figure < 0 || figure > 9 || !isRight(figure, draft)) {
                return false;
            }
            noteFigure(figure, draft);
            return true;
        }

        /** A letter is refused, too, if no figures behind it could be right. */
        private boolean mayFollow(int sign, Club draft) {
            if (draft.people == 0) {
                return sign == 'N';
            }
            switch (sign) {
                case 'R':
                    return draft.sessions < SESSIONS && somebodyHasTime(draft);
                case 'P':
                    return draft.places != ALL_PLACES;
                case 'O':
                    return (draft.places & ~openTold) != 0;
                case 'H':
                    return homesTold != (1 << draft.people) - 1;
                case 'F':
                    return draft.forgetTenths == 0;
                default:
                    return false;
            }
        }

        private boolean somebodyHasTime(Club draft) {
            for (int i = 0; i < draft.people; i++) {
                if (hasTime(i, draft)) {
                    return true;
                }
            }
            return false;
        }

        private boolean hasTime(int i, Club draft) {
            return draft.isPerson(i) && busy[i] != ALL_HOURS;
        }

        private void noteFigure(int figure, Club draft) {
            if (figures + 1 == figuresOf(letter)) {
                endPart(figure, draft);
                letter = 0;
            } else if (figures == 0) {
                one = figure;
            } else {
                two = figure;
            }
            figures++;
        }

        private static int figuresOf(int letter) {
            switch (letter) {
                case 'N':
                case 'F':
                    return 1;
                case 'H':
                    return 2;
                default:
                    return 3;
            }
        }

        private boolean isRight(int figure, Club draft) {
            switch (letter) {
                case 'N':
                    return figure >= 1 && figure <= PEOPLE;
                case 'R':
                    return isRightInSession(figure, draft);
                case 'P':
                    return figures != 0 || figure < PLACES && !draft.isPlace(figure);
                case 'O':
                    return isRightInOpen(figure, draft);
                case 'H':
                    return figures != 0 || draft.isPerson(figure) && (homesTold >> figure & 1) == 0;
                default:
                    return figure >= 1;
            }
        }

        private boolean isRightInSession(int figure, Club draft) {
            if (figures == 0) {
                return hasTime(figure, draft);
            }
            if (!draft.isPerson(one)) {
                return false;
            }
            int begin = figures == 1 ? figure : two;
            return begin <= figure && (busy[one] & hoursBetween(begin, figure)) == 0;
        }

        private boolean isRightInOpen(int figure, Club draft) {
            if (figures == 0) {
                return draft.isPlace(figure) && (openTold >> figure & 1) == 0;
            }
            return figures == 1 || two <= figure;
        }

        private static int hoursBetween(int begin, int end) {
            return (1 << (end + 1)) - (1 << begin);
        }

        private void endPart(int figure, Club draft) {
            switch (letter) {
                case 'N':
                    draft.people = figure;
                    break;
                case 'R':
                    draft.addSession(one, two, figure);
                    if (draft.isPerson(one)) {
                        busy[one] |= hoursBetween(two, figure);
                    }
                    break;
                case 'P':
                    draft.addPlace(one, two, figure);
                    break;
                case 'O':
                    draft.openBetween(one, two, figure);
                    openTold |= 1 << one;
                    break;
                case 'H':
                    if (draft.isPerson(one)) {
                        draft.homeMinutes[one] = figure;
                        homesTold |= 1 << one;
                    }
                    break;
                default:
                    draft.forgetTenths = figure;
                    break;
            }
        }
    }

    /** What who goes last does, hour by hour. */
    private static final class Rule {
        final int[] acts = new int[HOURS];
        int exceptions = 0;

        Rule() {
            Arrays.fill(acts, HOME);
        }

        void clear() {
            Arrays.fill(acts, NONE);
            exceptions = 0;
        }

        boolean isTold(int hour) {
            return isHour(hour) && acts[hour] != NONE;
        }

        int actAt(int hour) {
            return isTold(hour) ? acts[hour] : HOME;
        }

        void except(int hour, int act) {
            if (isHour(hour)) {
                acts[hour] = act;
                exceptions++;
            }
        }

        void otherwise(int act) {
            for (int h = 0; h < HOURS; h++) {
                if (acts[h] == NONE) {
                    acts[h] = act;
                }
            }
        }

        void setShort(int number) {
            clear();
            if (number >= ACTS) {
                int pair = number - ACTS;
                except(pair / (ACTS * ACTS), pair / ACTS % ACTS);
            }
            otherwise(number % ACTS);
        }

        void copyOf(Rule other) {
            System.arraycopy(other.acts, 0, acts, 0, HOURS);
            exceptions = other.exceptions;
        }
    }

    /** Reads a rule byte by byte, as ClubReader reads a club. */
    private static final class RuleReader {
        private boolean ended = false;
        private boolean wantsPlace = false;
        /** The hour of the exception that is being read, or NONE. */
        private int hour = NONE;

        int faultIn(byte[] text, int length, Rule draft) {
            draft.clear();
            ended = false;
            wantsPlace = false;
            hour = NONE;
            for (int i = 0; i < length && i < text.length; i++) {
                if (!takes(text[i], draft)) {
                    return i;
                }
            }
            return ended ? NONE : length;
        }

        private boolean takes(int sign, Rule draft) {
            if (ended) {
                return false;
            }
            if (wantsPlace) {
                return takesPlace(sign - '0', draft);
            }
            switch (sign) {
                case 'P':
                    wantsPlace = true;
                    return true;
                case 'H':
                    endAct(HOME, draft);
                    return true;
                case 'N':
                    endAct(NEXT, draft);
                    return true;
                default:
                    return takesHour(sign - '0', draft);
            }
        }

        private boolean takesPlace(int figure, Rule draft) {
            if (figure < 0 || figure >= PLACES) {
                return false;
            }
            wantsPlace = false;
            endAct(figure, draft);
            return true;
        }

        private boolean takesHour(int figure, Rule draft) {
            if (hour != NONE || !isHour(figure) || draft.isTold(figure)) {
                return false;
            }
            hour = figure;
            return true;
        }

        private void endAct(int act, Rule draft) {
            if (hour == NONE) {
                draft.otherwise(act);
                ended = true;
            } else {
                draft.except(hour, act);
                hour = NONE;
            }
        }
    }

    /** An hour, where the key is, who is inside and outside, and tallies. */
    private static final class Live {
        int hour = 0;
        int key = PERSON;
        int inside = 0;
        int outside = 0;
        int walked = 0;
        int risk = 0;
        int stood = 0;
        /** Of the hour that went by last: who stood, and whether an act was done (not handed). */
        int stoodNow = 0;
        boolean acted = false;

        void startAt(int begin) {
            startIn(0, begin, 0);
        }

        void startIn(int atHour, int where, int sessionsInside) {
            hour = atHour;
            key = where;
            inside = sessionsInside;
            outside = 0;
            walked = 0;
            risk = 0;
            stood = 0;
            stoodNow = 0;
            acted = false;
        }

        void copyOf(Live other) {
            hour = other.hour;
            key = other.key;
            inside = other.inside;
            outside = other.outside;
            walked = other.walked;
            risk = other.risk;
            stood = other.stood;
            stoodNow = other.stoodNow;
            acted = other.acted;
        }

        void passHour(Club club, int act, boolean forgets) {
            acted = false;
            if (!isHour(hour)) {
                return;
            }
            outside |= club.beginning[hour];
            // Once anybody is inside, all others come in with no key at all, whatever their numbers.
            if (inside != 0 || somebodyOpens(club)) {
                inside |= outside;
                outside = 0;
            }
            stoodNow = outside;
            stood += Integer.bitCount(outside);
            if (club.isPlace(key)) {
                risk += club.risk[key];
            }
            int last = letGo(club);
            if (last != NONE) {
                handOn(club, last, act, forgets);
            }
            hour = hourAfter(hour);
        }

        /** An own key is used ahead of the key, which then stays with whoever has it. */
        private boolean somebodyOpens(Club club) {
            for (int s = 0; s < club.sessions && s < SESSIONS; s++) {
                if ((outside >> s & 1) == 0) {
                    continue;
                }
                if (club.hasOwnKey(club.person[s])) {
                    return true;
                }
                if (key == PERSON + club.person[s]) {
                    key = INSIDE;
                    return true;
                }
                if (club.isOpen(key, hour)) {
                    walked += club.minutes[key];
                    key = INSIDE;
                    return true;
                }
            }
            return false;
        }

        /** Those go whose sessions end: the person who went last and must see to the key, or NONE. */
        private int letGo(Club club) {
            int going = club.ending[hour];
            int fromInside = inside & going;
            inside &= ~going;
            outside &= ~going;
            if (key != INSIDE || inside != 0) {
                return NONE;
            }
            return club.personOfLeast(fromInside);
        }

        private void handOn(Club club, int last, int act, boolean forgets) {
            int comer = club.comer[hourAfter(hour)];
            if (comer != NONE) {
                key = PERSON + comer;
                return;
            }
            acted = true;
            key = PERSON + last;
            if (forgets) {
                return;
            }
            int next = club.nextComer[hour];
            if (act == NEXT && club.isPerson(next)) {
                key = PERSON + next;
                walked += club.homeMinutes[next];
            } else if (club.isOpen(act, hour)) {
                key = act;
                walked += club.minutes[act];
            }
        }
    }

    /** A week from a begin, hour by hour. */
    private static final class Week {
        final Live state = new Live();
        final int[] keyAhead = new int[HOURS];
        final int[] stoodAt = new int[HOURS];

        /** The bits of forgotten say, act by act as acts are done, lowest first, which of them are forgotten. */
        void run(Club club, Rule rule, int begin, int forgotten) {
            state.startAt(begin);
            int bits = forgotten;
            for (int h = 0; h < HOURS; h++) {
                keyAhead[h] = state.key;
                state.passHour(club, rule.actAt(h), (bits & 1) != 0);
                stoodAt[h] = state.stoodNow;
                if (state.acted) {
                    bits >>= 1;
                }
            }
        }
    }

    /** Weeks for ever: those that lead to the ring, and the ring. */
    private static final class Ring {
        int lead = 0;
        int weeks = 0;
        int walked = 0;
        int risk = 0;
        int stood = 0;
        private final Week oneWeek = new Week();
        private final int[] nextSpot = new int[SPOTS];

        void run(Club club, Rule rule, int begin) {
            Arrays.fill(nextSpot, NONE);
            int first = followWeeks(club, rule, begin);
            lead = weeksBetween(spotOf(begin), first);
            weeks = 0;
            walked = 0;
            risk = 0;
            stood = 0;
            int spot = first;
            for (int i = 0; i < BEGINS && (i == 0 || spot != first); i++) {
                oneWeek.run(club, rule, whereAt(spot), 0);
                weeks++;
                walked += oneWeek.state.walked;
                risk += oneWeek.state.risk;
                stood += oneWeek.state.stood;
                spot = spotOf(oneWeek.state.key);
            }
        }

        /** Week by week till a begin comes again: the spot of that one, which is the first of the ring. */
        private int followWeeks(Club club, Rule rule, int begin) {
            int spot = spotOf(begin);
            for (int i = 0; i < BEGINS && spot >= 0 && nextSpot[spot] == NONE; i++) {
                oneWeek.run(club, rule, whereAt(spot), 0);
                nextSpot[spot] = spotOf(oneWeek.state.key);
                spot = nextSpot[spot];
            }
            return spot;
        }

        private int weeksBetween(int begin, int end) {
            int spot = begin;
            int between = 0;
            for (int i = 0; i < BEGINS && spot >= 0 && spot != end; i++) {
                spot = nextSpot[spot];
                between++;
            }
            return between;
        }

        boolean nobodyStands(Club club, Rule rule, int begin) {
            int seen = 0;
            int spot = spotOf(begin);
            for (int i = 0; i < BEGINS && spot >= 0 && (seen >> spot & 1) == 0; i++) {
                seen |= 1 << spot;
                oneWeek.run(club, rule, whereAt(spot), 0);
                if (oneWeek.state.stood != 0) {
                    return false;
                }
                spot = spotOf(oneWeek.state.key);
            }
            return true;
        }
    }

    /**
     * Every step that an hour can be while nobody has stood yet. Then all whose sessions are under way are inside,
     * so the hour, the spot of the key and the act say all.
     */
    private static final class Steps {
        private final int[] next = new int[HOURS * SPOTS * ACTS];
        private final int[] walk = new int[HOURS * SPOTS * ACTS];
        private final int[] risk = new int[HOURS * SPOTS];
        private final boolean[] acted = new boolean[HOURS * SPOTS];
        private final Live probe = new Live();

        void prepare(Club club) {
            for (int h = 0; h < HOURS; h++) {
                int under = club.under(h);
                for (int spot = 0; spot < SPOTS; spot++) {
                    int where = whereAt(spot);
                    boolean possible = where == INSIDE ? under != 0 : club.isBegin(where);
                    prepareActs(club, h, spot, possible ? under : NONE);
                }
            }
        }

        /** Under is NONE for a spot at which the key cannot be then. */
        private void prepareActs(Club club, int hour, int spot, int under) {
            int here = hour * SPOTS + spot;
            acted[here] = under != NONE;
            for (int act = 0; act < ACTS; act++) {
                int step = here * ACTS + act;
                if (under == NONE) {
                    next[step] = NONE;
                } else if (acted[here]) {
                    probe.startIn(hour, whereAt(spot), under);
                    probe.passHour(club, act, false);
                    acted[here] = probe.acted;
                    risk[here] = probe.risk;
                    walk[step] = probe.walked;
                    next[step] = probe.stood != 0 ? NONE : spotOf(probe.key);
                } else {
                    // No act is done here: the first one's step is the step of all.
                    walk[step] = walk[step - 1];
                    next[step] = next[step - 1];
                }
            }
        }

        private static boolean isStep(int hour, int spot, int act) {
            return hour >= 0 && hour < HOURS && spot >= 0 && spot < SPOTS && act >= 0 && act < ACTS;
        }

        /** The spot of the key behind the hour, or NONE: somebody stood. */
        int spotAfter(int hour, int spot, int act) {
            return isStep(hour, spot, act) ? next[(hour * SPOTS + spot) * ACTS + act] : NONE;
        }

        int priceOf(int hour, int spot, int act, int a, int b) {
            if (!isStep(hour, spot, act)) {
                return 0;
            }
            int here = hour * SPOTS + spot;
            return a * walk[here * ACTS + act] + b * risk[here];
        }

        /** How many acts there are to choose from: where none is done, 0 stands for all. */
        int choicesAt(int hour, int spot) {
            return isStep(hour, spot, 0) && acted[hour * SPOTS + spot] ? ACTS : 1;
        }
    }

    /** The best way, and the hour that bars all. */
    private static final class Ways {
        private static final int ENDLESS = 1000000;

        int price = NONE;
        int begin = NONE;
        final int[] acts = new int[HOURS];
        private int a = 0;
        private int b = 0;
        private final Steps steps;
        /** The least price from a spot ahead of an hour to the week's end, ENDLESS if there is no way. */
        private final int[] priceToGo = new int[(HOURS + 1) * SPOTS];

        Ways(Steps shared) {
            steps = shared;
        }

        void seek(Club club, int walkPrice, int riskPrice) {
            a = walkPrice;
            b = riskPrice;
            price = NONE;
            begin = NONE;
            Arrays.fill(acts, NONE);
            steps.prepare(club);
            int least = ENDLESS;
            for (int spot = 0; spot < BEGINS; spot++) {
                if (!club.isBegin(whereAt(spot))) {
                    continue;
                }
                priceAllTo(spot);
                if (priceToGo[spot] < least) {
                    least = priceToGo[spot];
                    price = least;
                    begin = whereAt(spot);
                    chooseActs(spot);
                }
            }
        }

        private void priceAllTo(int end) {
            Arrays.fill(priceToGo, ENDLESS);
            priceToGo[HOURS * SPOTS + end] = 0;
            for (int h = HOURS - 1; h >= 0; h--) {
                for (int spot = 0; spot < SPOTS; spot++) {
                    priceToGo[h * SPOTS + spot] = leastAt(h, spot);
                }
            }
        }

        private int leastAt(int hour, int spot) {
            int choices = steps.choicesAt(hour, spot);
            int least = ENDLESS;
            for (int act = 0; act < choices; act++) {
                least = Math.min(least, priceBy(hour, spot, act));
            }
            return least;
        }

        private int priceBy(int hour, int spot, int act) {
            int after = steps.spotAfter(hour, spot, act);
            if (after < 0) {
                return ENDLESS;
            }
            int rest = priceToGo[(hour + 1) * SPOTS + after];
            return rest == ENDLESS ? ENDLESS : rest + steps.priceOf(hour, spot, act, a, b);
        }

        /** The least act that keeps to the least price, hour by hour: so the whole way is the least. */
        private void chooseActs(int from) {
            int spot = from;
            for (int h = 0; h < HOURS && spot >= 0; h++) {
                int chosen = 0;
                for (int act = 1; act < ACTS && priceBy(h, spot, chosen) != priceToGo[h * SPOTS + spot]; act++) {
                    chosen = act;
                }
                acts[h] = chosen;
                spot = steps.spotAfter(h, spot, chosen);
            }
        }

        /** A safe way would reach the end, too: so it needs no test of its own. */
        int barringHour(Club club) {
            steps.prepare(club);
            int reached = 0;
            for (int spot = 0; spot < BEGINS; spot++) {
                if (club.isBegin(whereAt(spot))) {
                    reached |= 1 << spot;
                }
            }
            for (int h = 0; h < HOURS; h++) {
                reached = reachedAfter(h, reached);
                if (reached == 0) {
                    return h;
                }
            }
            return HOURS;
        }

        private int reachedAfter(int hour, int reached) {
            int after = 0;
            for (int spot = 0; spot < SPOTS; spot++) {
                for (int act = 0; act < ACTS && (reached >> spot & 1) != 0; act++) {
                    int to = steps.spotAfter(hour, spot, act);
                    if (to >= 0) {
                        after |= 1 << to;
                    }
                }
            }
            return after;
        }
    }

    /** The best short rule from a begin. */
    private static final class ShortRules {
        int number = NONE;
        int price = 0;
        int weeks = 1;
        private int a = 0;
        private int b = 0;
        private int ringPrice = 0;
        private int ringWeeks = 0;
        private final Steps steps;
        private final Rule trial = new Rule();
        private final int[] weekOf = new int[SPOTS];
        private final int[] priceTill = new int[SPOTS];

        ShortRules(Steps shared) {
            steps = shared;
        }

        void seek(Club club, int begin, int walkPrice, int riskPrice) {
            a = walkPrice;
            b = riskPrice;
            number = NONE;
            steps.prepare(club);
            for (int n = 0; n < SHORT_RULES; n++) {
                trial.setShort(n);
                if (nobodyStands(spotOf(begin)) && (number == NONE || ringPrice * weeks < price * ringWeeks)) {
                    number = n;
                    price = ringPrice;
                    weeks = ringWeeks;
                }
            }
        }

        /** Finds the price and the weeks of the trial rule's ring, too. */
        private boolean nobodyStands(int begin) {
            Arrays.fill(weekOf, NONE);
            int total = 0;
            int spot = begin;
            for (int w = 0; w < SPOTS && spot >= 0 && spot < SPOTS; w++) {
                if (weekOf[spot] != NONE) {
                    ringWeeks = w - weekOf[spot];
                    ringPrice = total - priceTill[spot];
                    return true;
                }
                weekOf[spot] = w;
                priceTill[spot] = total;
                for (int h = 0; h < HOURS && spot >= 0; h++) {
                    int act = trial.actAt(h);
                    total += steps.priceOf(h, spot, act, a, b);
                    spot = steps.spotAfter(h, spot, act);
                }
            }
            return false;
        }
    }

    /**
     * A week in which acts may be forgotten. Behind an act nobody is there and nobody begins at the next hour, so
     * acts lie two hours apart: a week has five at most. Each of the 32 ways to forget among five has a weight;
     * where fewer acts are done, the weights of the ways that do not differ add up.
     */
    private static final class Chances {
        static final long ALL = 100000;
        private static final int MOST_ACTS = 5;

        long stood = 0;
        long nobodyStood = 0;
        final long[] keyAt = new long[SPOTS];
        private final Week oneWeek = new Week();

        /** The key's chances are those ahead of the hour. */
        void gather(Club club, Rule rule, int begin, int hour) {
            stood = 0;
            nobodyStood = 0;
            Arrays.fill(keyAt, 0);
            for (int forgotten = 0; forgotten < 1 << MOST_ACTS; forgotten++) {
                long weight = weightOf(forgotten, club.forgetTenths);
                if (weight != 0 && isHour(hour)) {
                    oneWeek.run(club, rule, begin, forgotten);
                    addWeek(weight, spotOf(oneWeek.keyAhead[hour]));
                }
            }
        }

        private static long weightOf(int forgotten, int tenths) {
            long weight = 1;
            for (int i = 0; i < MOST_ACTS; i++) {
                weight *= (forgotten >> i & 1) != 0 ? tenths : 10 - tenths;
            }
            return weight;
        }

        private void addWeek(long weight, int spot) {
            stood += weight * oneWeek.state.stood;
            if (oneWeek.state.stood == 0) {
                nobodyStood += weight;
            }
            if (spot >= 0) {
                keyAt[spot] += weight;
            }
        }

        /** The place that has just i others ahead of it, or NONE. */
        int placeToLook(Club club, int hour, int i) {
            for (int p = 0; p < PLACES; p++) {
                if (mayLieOpen(club, hour, p) && aheadOf(club, hour, p) == i) {
                    return p;
                }
            }
            return NONE;
        }

        private boolean mayLieOpen(Club club, int hour, int p) {
            return club.isOpen(p, hour) && keyAt[p] != 0;
        }

        /** Multiplied crosswise, so that no minutes divide: 0 minutes come ahead of all, and are alike among themselves. */
        private int aheadOf(Club club, int hour, int p) {
            int others = 0;
            for (int o = 0; o < PLACES; o++) {
                long theirs = keyAt[o] * club.minutes[p];
                long ours = keyAt[p] * club.minutes[o];
                if (mayLieOpen(club, hour, o) && (theirs > ours || theirs == ours && o < p)) {
                    others++;
                }
            }
            return others;
        }
    }
}
