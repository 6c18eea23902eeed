/** The bounds that passage 3 names, and promises 25 to 30 and 32 to 35: on each side of each. */
public final class BoundsOfWaysTest {
    private static final Due due = new Due();

    public static void main(String[] args) {
        prices();
        leastBegin();
        leastActs();
        noneDone();
        endIsBegin();
        bars();
        barsByPlaces();
        shortLead();
        shortMean();
        shortLeastNumber();
        shortAgainstAll();
        fewestKeys();
        leastBits();
        movesByOne();
        movesInOrder();
        movesWithinTheHours();
        movesOfOnePerson();
        fitting();
        shifting();
        shiftIsLate();
        shiftBehindWhatWasKept();
        due.end();
    }

    private static BoathouseKey club(String text, String rule, int own) {
        BoathouseKey x = Texts.club(text);
        Texts.rule(x, 0, rule);
        x.own(own);
        return x;
    }

    /**
     * p1 would keep what it is given, as it has an own key: so p2 comes in by place 0 alone. The cheapest: p0 has the
     * key, lays it down at 0, p2 takes it up at 4 and brings it to p0's home (0 minutes): 2 minutes, 3 hours of risk.
     */
    private static void prices() {
        due.asks("THE PRICE of a WEEK: a for each minute WALKED, b for each RISK (a, b 0 .. 9)");
        BoathouseKey x = club("N3R000R122R244P011", "H", 2);
        for (int a = -1; a <= 10; a++) {
            for (int b = -1; b <= 10; b++) {
                boolean bad = a < 0 || a > 9 || b < 0 || b > 9;
                boolean free = a == 0 && b == 0;
                due.is("find " + a + " " + b, bad ? -2 : 2 * a + 3 * b, x.find(a, b));
                due.is("from " + a + " " + b, bad ? -2 : free ? 0 : 10, x.from(a, b));
                BoathouseKey y = club("N3R000R122R244P011", "H", 2);
                due.is("act at 0", bad ? -2 : 0, y.way(a, b, 0));
                due.is("act at 4", bad ? -2 : free ? 0 : 5, y.way(a, b, 4));
                due.is("brief: P0, or 0 P0 and else N", bad ? -2 : free ? 0 : 11, y.brief(10, a, b));
                due.is("briefPrice, above", bad ? -2 : 2 * a + 3 * b, y.briefPrice(10, a, b, true));
                due.is("briefPrice, below", bad ? -2 : 1, y.briefPrice(10, a, b, false));
                due.is("BAD is told ahead of UNKNOWN", bad ? -2 : -1, y.way(a, b, 10));
                due.is("BAD is told ahead of UNKNOWN", bad ? -2 : -1, y.way(a, b, -1));
                due.is("UNKNOWN is told ahead of BAD", -1, y.brief(13, a, b));
                due.is("UNKNOWN is told ahead of BAD", -1, y.briefPrice(1, a, b, true));
            }
        }
        int[] far = {Integer.MIN_VALUE, Integer.MAX_VALUE};
        for (int a : far) {
            due.is("find", -2, x.find(a, 0));
            due.is("from", -2, x.from(0, a));
            due.is("way", -2, x.way(a, a, 0));
        }
    }

    private static void leastBegin() {
        due.asks("of like ones the least BEGIN");
        for (int has = 0; has < 16; has++) {
            StringBuilder text = new StringBuilder("N2R155");
            for (int p = 0; p < 4; p++) if ((has >> p & 1) != 0) text.append("P").append(p).append("00");
            int least = has == 0 ? 11 : Integer.numberOfTrailingZeros(has);
            BoathouseKey x = Texts.club(text.toString());
            due.is("find " + text, 0, x.find(9, 9));
            due.is("from " + text, least, x.from(9, 9));
            due.is("the act at 5 of " + text, has == 0 ? 0 : least, x.way(9, 9, 5));
        }
        BoathouseKey x = Texts.club("N6");
        due.is("nobody rows: the least person", 10, x.from(1, 1));
        BoathouseKey y = Texts.club("N6P001P101P200");
        due.is("the least place without risk", 2, y.from(1, 1));
        due.is("the least place", 0, y.from(1, 0));
    }

    private static void leastActs() {
        due.asks("then ACTS HOUR by HOUR");
        BoathouseKey x = Texts.club("N1R022R055R088P300P200O209O334");
        due.is("from", 2, x.from(5, 5));
        int[] free = {0, 0, 0, 0, 0, 0, 0, 0, 2, 0};
        for (int h = 0; h < 10; h++) due.is("home by P0 at 2, at 5; then P2 at 8: " + h, free[h], x.way(5, 5, h));
        BoathouseKey y = Texts.club("N1R055P011P111P211P311");
        due.is("home by H, as all places are there", 4, y.way(1, 1, 5));
        BoathouseKey z = Texts.club("N1R055P011P111P311");
        due.is("home by P2, as it is not there", 2, z.way(1, 1, 5));
        BoathouseKey u = Texts.club("N1R055P011P111P211P311O044");
        due.is("home by P0, as it is not open at 5", 0, u.way(1, 1, 5));
        BoathouseKey v = Texts.club("N1R055P011P111P211P311O055");
        due.is("home by H, as it is open at 5", 4, v.way(1, 1, 5));
        BoathouseKey w = Texts.club("N2R022R155P019P119P219P319");
        due.is("N at 2", 5, w.way(1, 1, 2));
        due.is("N at 5", 5, w.way(1, 1, 5));
        due.is("find", 0, w.find(1, 1));
    }

    private static void noneDone() {
        due.asks("(at HOURS at which none is done: 0)");
        BoathouseKey x = Texts.club("N2R013R145R077P011P111P211P311H13");
        int[] acts = {0, 0, 0, 0, 0, 5, 0, 4, 0, 0};
        due.is("from", 10, x.from(9, 9));
        for (int h = 0; h < 10; h++) due.is("hour " + h, acts[h], x.way(9, 9, h));
        BoathouseKey none = new BoathouseKey();
        for (int h = 0; h < 10; h++) due.is("hour " + h, 0, none.way(9, 9, h));
        BoathouseKey both = Texts.club("N2R006R114P011P111P211P311");
        for (int h = 0; h < 10; h++) due.is("p1 goes at 4, p0 at 6: " + h, h == 6 ? 4 : 0, both.way(9, 9, h));
        due.is("from", 10, both.from(9, 9));
    }

    private static void endIsBegin() {
        due.asks("It is SAFE from a BEGIN, if in a WEEK from it nobody STOOD, and ITS END is that BEGIN.");
        // The key is handed to p1, whose own key lets it keep it: the week goes by, but ends with p1.
        BoathouseKey x = club("N2R000R111", "H", 2);
        due.is("find", -9, x.find(1, 1));
        due.is("from", -9, x.from(1, 1));
        for (int h = 0; h < 10; h++) due.is("way", -9, x.way(1, 1, h));
        due.is("a wrong hour is refused all the same", -1, x.way(1, 1, 10));
        due.is("a wrong hour is refused all the same", -1, x.way(1, 1, -1));
        due.is("bar: there is none such", 10, x.bar());
        BoathouseKey y = club("N2R000R111", "H", 3);
        due.is("with both own keys", 0, y.find(1, 1));
        due.is("the key stays", 10, y.from(1, 1));
        BoathouseKey z = club("N2R000R111", "H", 0);
        due.is("with none", 0, z.find(1, 1));
        due.is("N at 1", 5, z.way(1, 1, 1));
        z.own(2);
        due.is("then there is none again", -9, z.find(1, 1));
        z.own(0);
        due.is("and again one", 10, z.from(1, 1));
        z.own(2);
        due.is("and none", -9, z.from(1, 1));
        due.is("and none", -9, z.way(1, 1, 1));
    }

    private static void bars() {
        due.asks("THE BAR: the least HOUR h, so that by no WAY from any BEGIN HOURS 0 .. h go by and nobody STOOD; 10: none such");
        for (int h = 2; h <= 9; h++) {
            BoathouseKey x = club("N2R000R111R0" + h + h, "H", 2);
            due.is("p0 hands it to p1, who keeps it", h, x.bar());
            due.is("none is SAFE", -9, x.find(0, 0));
            x.own(0);
            due.is("also if there is a SAFE WAY", 10, x.bar());
            due.is("it is SAFE", 0, x.find(1, 1));
            x.own(3);
            due.is("all have own keys", 10, x.bar());
            BoathouseKey y = club("N2R000R111R0" + h + "9", "H", 2);
            due.is("as long as it is", h, y.bar());
            BoathouseKey z = club("N2R000R111R0" + h + h + "R19" + "9", "H", h < 9 ? 2 : 3);
            due.is("the least of the hours", h < 9 ? h : 10, z.bar());
        }
        due.is("nobody rows", 10, new BoathouseKey().bar());
    }

    /** p1 keeps what it is given: only by a place p2 comes in, that is OPEN when p0 goes and when p2 comes. */
    private static void barsByPlaces() {
        due.asks("by no WAY from any BEGIN HOURS 0 .. h go by and nobody STOOD");
        due.is("without a place", 6, club("N3R022R144R266", "H", 2).bar());
        for (int p = 0; p < 4; p++) {
            for (int s = 0; s <= 9; s++) {
                for (int e = s; e <= 9; e++) {
                    BoathouseKey x = club("N3R022R144R266P" + p + "11O" + p + s + e, "H", 2);
                    boolean open = s <= 2 && e >= 6;
                    due.is("place " + p + " open " + s + " .. " + e, open ? 10 : 6, x.bar());
                    due.is("find", open ? 2 + 3 : -9, x.find(1, 1));
                    due.is("from", open ? 10 : -9, x.from(1, 1));
                    due.is("the act at 2", open ? p : -9, x.way(1, 1, 2));
                }
            }
        }
    }

    private static void shortLead() {
        due.asks("THE BEST SHORT one: of those by which FOR EVER (LEAD, too) nobody STOOD; NONE");
        BoathouseKey x = Texts.club("N2R000R114");
        due.is("from p1 p0 stands in the first week", -9, x.brief(11, 1, 1));
        due.is("above", -9, x.briefPrice(11, 1, 1, true));
        due.is("below", -9, x.briefPrice(11, 1, 1, false));
        due.is("from p0", 5, x.brief(10, 1, 1));
        due.fraction("its price", 0, 1, x.briefPrice(10, 1, 1, true), x.briefPrice(10, 1, 1, false));
    }

    private static void shortMean() {
        due.asks("the least PRICE of a WEEK in the mean of its RING");
        BoathouseKey x = Texts.club("N1R055P099");
        due.is("what LEAD walks does not count: home by P1", 1, x.brief(0, 9, 9));
        due.fraction("price", 0, 1, x.briefPrice(0, 9, 9, true), x.briefPrice(0, 9, 9, false));
        due.is("without a price P0", 0, x.brief(0, 0, 0));
        BoathouseKey y = club("N3R000R122R244P011", "H", 2);
        due.is("from p0: 0 P0, else N", 6 + 5, y.brief(10, 1, 1));
        due.fraction("2 minutes, 3 risks", 2 * 9 + 3 * 7, 1, y.briefPrice(10, 9, 7, true), y.briefPrice(10, 9, 7, false));
        due.fraction("2 minutes", 18, 1, y.briefPrice(10, 9, 0, true), y.briefPrice(10, 9, 0, false));
        due.fraction("3 risks", 27, 1, y.briefPrice(10, 0, 9, true), y.briefPrice(10, 0, 9, false));
    }

    private static void shortLeastNumber() {
        due.asks("of like ones the least number");
        String[] clubs = {"N1R055", "N1R055P011", "N1R055P011P111", "N1R055P011P111P211", "N1R055P011P111P211P311"};
        for (int i = 0; i < 5; i++) due.is("home: " + clubs[i], i, Texts.club(clubs[i]).brief(10, 1, 1));
        BoathouseKey x = Texts.club("N2R055R122P011P111P211P311");
        due.is("N alone", 5, x.brief(11, 1, 1));
        BoathouseKey y = Texts.club("N2R055R122P010P111P211P311H09");
        due.is("p0's home is far: 2 P0, else N", 6 + 36 * 2 + 5, y.brief(11, 1, 1));
        BoathouseKey z = Texts.club("N2R099R122P011P111P211P310H09");
        due.is("the last numbers: 2 P3, else N", 6 + 36 * 2 + 6 * 3 + 5, z.brief(11, 1, 1));
        BoathouseKey w = Texts.club("N2R000R199P011P111P211P311H19");
        due.is("handed at 9, N at 0", 5, w.brief(10, 0, 1));
    }

    /** All 366 are put and tried, some on an object: the best by what ever and never say is brief's. */
    private static void shortAgainstAll() {
        due.asks("THE BEST SHORT one from a BEGIN: the least PRICE of a WEEK in the mean of its RING; of like ones the least number");
        String[] clubs = {"N2R012R145P032H14", "N3R033R166R289P013O059P121H07H25", "N2R099R144P012H19H02"};
        for (String text : clubs) {
            int best = -9;
            long price = 0;
            long weeks = 1;
            BoathouseKey x = null;
            for (int n = 0; n < 366; n++) {
                if (n % 60 == 0) x = Texts.club(text);
                x.put(1, n);
                long thisPrice = 3 * x.ever(1, 10, 2) + 2 * x.ever(1, 10, 3);
                long theseWeeks = x.ever(1, 10, 1);
                if (x.never(1, 10) == 1 && (best < 0 || thisPrice * weeks < price * theseWeeks)) {
                    best = n;
                    price = thisPrice;
                    weeks = theseWeeks;
                }
            }
            BoathouseKey y = Texts.club(text);
            due.is("brief of " + text, best, y.brief(10, 3, 2));
            if (best >= 0) due.is("its price", price * y.briefPrice(10, 3, 2, false), weeks * y.briefPrice(10, 3, 2, true));
        }
    }

    private static void fewestKeys() {
        due.asks("OWN KEYS: the fewest PEOPLE who must have one (whoever has one now) so that FOR EVER nobody STOOD");
        StringBuilder text = new StringBuilder();
        for (int k = 1; k <= 6; k++) {
            text.append("R").append(k - 1).append(k - 1).append(k - 1);
            BoathouseKey x = Texts.club("N" + k + text + "P000O099");
            for (int own = 0; own < 1 << k; own += k) {
                x.own(own);
                due.is("none can fetch it: all " + k, (1 << k) - 1, x.keys(0, 0));
                due.is("who has one now has it still", own, x.own(own));
            }
        }
        BoathouseKey y = Texts.club("N6R000R133");
        due.is("who does not row needs none", 3, y.keys(0, 15));
        due.is("p0 has the key", 2, y.keys(0, 10));
        due.is("p1 has the key", 1, y.keys(0, 11));
        Texts.rule(y, 0, "N");
        due.is("nobody needs one", 0, y.keys(0, 10));
        due.is("nobody rows", 0, Texts.club("N6").keys(0, 13));
    }

    private static void leastBits() {
        due.asks("of as many those that are least as bits");
        BoathouseKey x = Texts.club("N4R300R200R100P000O099");
        due.is("one of p1, p2, p3", 2, x.keys(0, 0));
        BoathouseKey y = Texts.club("N6R500R400R255R155P000O099");
        due.is("one of p5, p4 and one of p2, p1", 18, y.keys(0, 0));
        BoathouseKey z = Texts.club("N3R000R033R100R233P000O099");
        due.is("p0 alone is fewer than p1 and p2", 1, z.keys(0, 0));
        BoathouseKey w = Texts.club("N3R200R233R100R033P000O099");
        due.is("p2 alone is fewer than p0 and p1", 4, w.keys(0, 0));
    }

    private static void movesByOne() {
        due.asks("TO MOVE: 10 times the SESSION, and 2 and by how much (0, 1, 3, 4); NONE; 100: it is not needed.");
        for (int s = 0; s <= 9; s++) {
            for (int e = s; e <= 9; e++) {
                for (int h = 0; h <= 9; h++) {
                    int by = h < s ? s - h : h > e ? e - h : 0;
                    int want = by == 0 ? 100 : by >= -2 && by <= 2 ? 2 + by : -9;
                    BoathouseKey x = Texts.club("N1R0" + h + h + "P000O0" + s + e);
                    due.is("rows at " + h + ", open " + s + " .. " + e, want, x.move(0, 0));
                    due.is("nothing is moved", h, x.session(0, 1));
                }
            }
        }
        due.is("nobody rows", 100, new BoathouseKey().move(0, 10));
        BoathouseKey y = Texts.club("N6R000R100R200R300R400R500R099R055P000O044");
        y.own(63);
        due.is("all have own keys", 100, y.move(0, 0));
        BoathouseKey z = club("N6R000R111R222R333R099R199R299R566P000O077", "H", 31);
        due.is("session 7 by 1", 73, z.move(0, 0));
    }

    private static void movesInOrder() {
        due.asks("(less 1, 1, less 2, 2: in this order, all SESSIONS by each)");
        due.is("less 1 ahead of 1", 1, club("N2R055R166P000O044", "H", 2).move(0, 0));
        // p1 has an own key, and p2 needs it: were p1 moved, p2 would stand.
        due.is("1 ahead of less 2", 3, club("N3R055R167R277P000O033", "H", 2).move(0, 0));
        due.is("less 2 ahead of 2", 0, club("N2R055R177P000O033", "H", 2).move(0, 0));
        due.is("all SESSIONS by less 2 ahead of any by 2", 10, club("N2R055R177P000O022", "H", 2).move(0, 0));
        due.is("2 at last", 4, club("N3R055R178R288P000O022", "H", 2).move(0, 0));
        due.is("none", -9, club("N2R055R188P000O022", "H", 2).move(0, 0));
        due.is("all SESSIONS by less 1 ahead of any by 1", 11, club("N2R033R155", "4N5NH", 0).move(0, 10));
        due.is("session 0 by 1", 3, club("N2R033R155", "5NH", 0).move(0, 10));
        due.is("of the SESSIONS the least", 1, club("N2R055R155P000O044", "N", 0).move(0, 0));
    }

    private static void movesWithinTheHours() {
        due.asks("so that it still lies within the HOURS");
        due.is("8 .. 9 cannot begin at 9", -9, Texts.club("N1R089P000O099").move(0, 0));
        due.is("7 .. 8 cannot begin at 9", -9, Texts.club("N1R078P000O099").move(0, 0));
        due.is("7 .. 8 can begin at 8", 3, Texts.club("N1R078P000O089").move(0, 0));
        due.is("6 .. 7 can begin at 8", 4, Texts.club("N1R067P000O089").move(0, 0));
        due.is("1 .. 9 can begin at 0", 1, Texts.club("N1R019P000O000").move(0, 0));
        due.is("2 .. 9 can begin at 0", 0, Texts.club("N1R029P000O000").move(0, 0));
        // At 9 nothing may be moved round to 0, nor at 0 back to 9.
        due.is("from 9 not to 0", -9, Texts.club("N1R099P000O001").move(0, 0));
        due.is("from 0 not to 9", -9, Texts.club("N1R000P000O089").move(0, 0));
    }

    private static void movesOfOnePerson() {
        due.asks("TO MOVE: no two of one PERSON have an HOUR together");
        due.is("at 6 it rows already: so by 2", 4, Texts.club("N1R055R066P000O066").move(0, 0));
        due.is("at 6 another rows", 3, club("N2R055R166P000O066", "N", 0).move(0, 0));
        due.is("neither by 1 nor by 2", -9, Texts.club("N1R055R067P000O066").move(0, 0));
        due.is("at 5 it rows already", -9, Texts.club("N1R034R055P000O044").move(0, 0));
        due.is("at 5 nobody rows", 3, Texts.club("N1R034P000O044").move(0, 0));
        due.is("at 5 another rows", 3, club("N2R034R155P000O044", "N", 0).move(0, 0));
    }

    private static void fitting() {
        due.asks("Whether a SESSION may begin at an HOUR (as long as it is): 1, 0.");
        String text = "N3R013R055R146R288R299R078";
        int[][] all = {{0, 1, 3}, {0, 5, 5}, {1, 4, 6}, {2, 8, 8}, {2, 9, 9}, {0, 7, 8}};
        for (int s = 0; s < all.length; s++) {
            for (int h = 0; h <= 9; h++) {
                int want = free(all, s, h) ? 1 : 0;
                BoathouseKey x = Texts.club(text);
                due.is("session " + s + " at " + h, want, x.fits(s, h));
                due.is("and it is still", all[s][1], x.session(s, 1));
                due.asks("A SESSION begins at an HOUR now: the HOUR at which it did. BAD: it may not");
                due.is("shift " + s + " to " + h, want == 1 ? all[s][1] : -2, x.shift(s, h));
                for (int o = 0; o < all.length; o++) {
                    boolean moved = o == s && want == 1;
                    due.is("person", all[o][0], x.session(o, 0));
                    due.is("first", moved ? h : all[o][1], x.session(o, 1));
                    due.is("last", moved ? h + all[o][2] - all[o][1] : all[o][2], x.session(o, 2));
                }
            }
        }
        BoathouseKey y = Texts.club("N2R009R199");
        for (int h = 0; h <= 9; h++) due.is("all ten hours at " + h, h == 0 ? 1 : 0, y.fits(0, h));
        for (int h = 0; h <= 9; h++) due.is("one hour at " + h, 1, y.fits(1, h));
    }

    private static boolean free(int[][] all, int s, int h) {
        int end = h + all[s][2] - all[s][1];
        boolean free = end <= 9;
        for (int o = 0; o < all.length; o++) {
            for (int at = h; at <= end; at++) {
                if (o != s && all[o][0] == all[s][0] && all[o][1] <= at && at <= all[o][2]) free = false;
            }
        }
        return free;
    }

    private static void shifting() {
        due.asks("A SESSION begins at an HOUR now");
        BoathouseKey x = club("N2R033R155", "P0", 0);
        due.is("p1 stands at 5", 32, 1 << 5 & stands(x, 10));
        due.is("shift", 5, x.shift(1, 4));
        due.is("it is handed the key", 0, stands(x, 10) & 1 << 4);
        due.is("shift to 9", 4, x.shift(1, 9));
        due.is("shift to 0", 9, x.shift(1, 0));
        due.is("to where it is", 0, x.shift(1, 0));
        due.is("stands at 0", 1, stands(x, 10));
        due.is("the text stays", 2, x.count(4));
        due.is("N: who comes next is told by the hours now", 11, nextOf(x));
        Texts.put(x, "N2R033R155");
        x.make();
        due.is("made anew it is as told", 5, x.session(1, 1));
    }

    private static int nextOf(BoathouseKey x) {
        Texts.rule(x, 1, "N");
        x.shift(1, 8);
        int where = x.ahead(1, 10, 4);
        x.shift(1, 0);
        Texts.put(x, "P0");
        return where;
    }

    private static int stands(BoathouseKey x, int begin) {
        int hours = 0;
        for (int h = 0; h < 10; h++) if (x.outside(0, begin, h) != 0) hours |= 1 << h;
        return hours;
    }

    private static void shiftIsLate() {
        due.asks("shift: LATE: somebody is INSIDE or OUTSIDE");
        BoathouseKey x = Texts.club("N2R024R166");
        int[] want = {2, 2, -3, -3, 2, 2, 2, 2, 2, 2};
        for (int h = 0; h < 10; h++) {
            x.hour(0);
            due.is("behind hour " + h, want[h], x.shift(0, 2));
        }
        BoathouseKey y = Texts.club("N2R124");
        for (int h = 0; h < 10; h++) {
            y.hour(0);
            due.is("p1 stands: behind hour " + h, want[h], y.shift(0, 2));
            due.is("BAD is told ahead of LATE", -2, y.shift(0, 8));
            due.is("UNKNOWN is told ahead of LATE", -1, y.shift(0, 10));
            due.is("UNKNOWN is told ahead of LATE", -1, y.shift(1, 2));
            due.is("UNKNOWN is told ahead of BAD", -1, y.shift(1, 8));
            due.is("UNKNOWN is told ahead of BAD", -1, y.shift(0, -1));
        }
    }

    /** What was kept stays as it was, though a SESSION has other hours now: it goes when it ends now. */
    private static void shiftBehindWhatWasKept() {
        due.asks("again: It is as it was kept. Those go whose SESSIONS end at h");
        keptThenShifted(5, 7);
        keptThenShifted(6, 8);
        keptThenShifted(7, 9);
        keptThenShifted(0, 2);
    }

    /** Kept behind hour 2, when its session went from 2 to 4; now it goes from begin to end. */
    private static void keptThenShifted(int begin, int end) {
        BoathouseKey in = Texts.club("N2R024");
        BoathouseKey out = Texts.club("N2R124");
        for (int h = 0; h < 3; h++) due.is("who stands at " + h, h == 2 ? 1 : 0, in.hour(0) + out.hour(0));
        in.keep(0);
        out.keep(0);
        for (int h = 3; h < 5; h++) due.is("who stands at " + h, 1, in.hour(0) + out.hour(0));
        due.is("shift", 2, in.shift(0, begin));
        due.is("shift", 2, out.shift(0, begin));
        due.is("again", 3, in.again(0));
        due.is("again", 3, out.again(0));
        int hours = (end - 3 + 10) % 10 + 1;
        for (int i = 1; i <= hours; i++) {
            due.is("LATE: it is INSIDE", -3, in.shift(0, 2));
            due.is("LATE: it is OUTSIDE", -3, out.shift(0, 2));
            due.is("it is INSIDE", 0, in.hour(0));
            due.is("it stands: one hour each", 1, out.hour(0));
            due.is("INSIDE, till it ends", i < hours ? 1 : 0, in.live(1));
            due.is("OUTSIDE, till it ends", i < hours ? 1 : 0, out.live(2));
            due.is("THE KEY", i < hours ? 20 : 10, in.where());
            due.is("STOOD", i + 1, out.live(5));
        }
        due.is("the hours are as they were shifted", begin, in.shift(0, 2));
        due.is("the hours are as they were shifted", begin, out.shift(0, 2));
    }
}
