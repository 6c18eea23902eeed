import java.util.ArrayList;
import java.util.List;

/** The bounds that passages 2 and 5 name, and promises 12 to 24: on each side of each. */
public final class BoundsOfHoursTest {
    private static final Due due = new Due();
    private static final int[] WHERES = {0, 1, 2, 3, 10, 11, 12, 13, 14, 15, 20};

    public static void main(String[] args) {
        hoursGoRound();
        standing();
        comingLater();
        oneLetsInAll();
        openToFetch();
        openToLay();
        risks();
        lasts();
        handing();
        exceptions();
        nextRoundTheWeek();
        placesThatAreNot();
        begins();
        tenHours();
        forEver();
        leadCounts();
        liveBegins();
        talliesGoOn();
        bringing();
        slots();
        row();
        judging();
        due.end();
    }

    private static BoathouseKey club(String text, String rule) {
        BoathouseKey x = Texts.club(text);
        Texts.rule(x, 0, rule);
        return x;
    }

    private static void hoursGoRound() {
        due.asks("HOURS go round: 0 .. 9, 0 ...");
        BoathouseKey x = new BoathouseKey();
        for (int i = 0; i < 35; i++) {
            due.is("hour next", i % 10, x.live(0));
            due.is("nobody rows", 0, x.hour(i % 3));
            due.is("the key is where it was", 10, x.where());
        }
        // p1 stands at 0; at 9 p0 hands the key on to hour 0; p1 takes it home then, and p0 stands at 9.
        BoathouseKey y = club("N2R099R100", "H");
        for (int week = 0; week < 3; week++) {
            for (int h = 0; h < 10; h++) {
                int stands = h == 0 && week == 0 || h == 9 && week > 0 ? 1 : 0;
                due.is("who stands at " + h, stands, y.hour(0));
                due.is("hour next", (h + 1) % 10, y.live(0));
            }
            due.is("p1 has the key", 11, y.where());
            due.is("STOOD", week + 1, y.live(5));
        }
    }

    private static void standing() {
        due.asks("Who does not stands OUTSIDE: STOOD one hour each. Those go whose SESSIONS end at h (OUTSIDE or INSIDE).");
        for (int s = 0; s <= 9; s++) {
            for (int e = s; e <= 9; e++) {
                BoathouseKey x = club("N2R1" + s + e, "H");
                due.is("STOOD", e - s + 1, x.week(0, 10, 2));
                due.is("STOOD with the key", 0, x.week(0, 11, 2));
                for (int h = 0; h <= 9; h++) {
                    boolean at = s <= h && h <= e;
                    due.is("outside at " + h, at ? 1 : 0, x.outside(0, 10, h));
                    due.is("outside with the key", 0, x.outside(0, 11, h));
                    due.is("the key ahead of " + h, s < h && at ? 20 : 11, x.ahead(0, 11, h));
                    due.is("one hour goes by", at ? 1 : 0, x.hour(0));
                    due.is("who is outside then", at && h != e ? 1 : 0, x.live(2));
                    due.is("nobody is inside", 0, x.live(1));
                }
                due.is("STOOD", e - s + 1, x.live(5));
            }
        }
        due.asks("One PERSON, no SESSIONS, no PLACES.");
        due.is("nobody rows", 0, Texts.club("N6").week(0, 15, 2));
    }

    private static void comingLater() {
        due.asks("those who stand OUTSIDE since earlier try");
        BoathouseKey x = club("N2R026R145", "H");
        int[] stand = {0, 0, 1, 1, 0, 0, 0, 0, 0, 0};
        int[] inside = {0, 0, 0, 0, 3, 1, 0, 0, 0, 0};
        x.bring(11);
        for (int h = 0; h < 10; h++) {
            due.is("outside at " + h, stand[h], x.outside(0, 11, h));
            due.is("how many stood at " + h, stand[h], x.hour(0));
            due.is("inside behind " + h, inside[h], x.live(1));
        }
        due.is("p0 went last", 10, x.where());
        due.asks("THE KEY lies at a PLACE that is OPEN at h (those OUTSIDE since earlier)");
        BoathouseKey y = club("N1R027P095O049", "H");
        for (int h = 0; h < 10; h++) due.is("outside at " + h, h == 2 || h == 3 ? 1 : 0, y.outside(0, 0, h));
        due.is("it walks once", 9, y.week(0, 0, 0));
        due.is("risk at 0 .. 3", 20, y.week(0, 0, 1));
    }

    private static void oneLetsInAll() {
        due.asks("try by number of SESSIONS, again and again till none more comes in");
        StringBuilder text = new StringBuilder("N6");
        int[] people = {0, 1, 2, 3, 4, 5};
        for (int i : people) text.append("R").append(i).append("33");
        BoathouseKey x = club(text.toString(), "H");
        for (int i : people) {
            due.is("all come in with p" + i, 0, x.week(0, 10 + i, 2));
            due.is("the last is p0", 10, x.week(0, 10 + i, 3));
        }
        BoathouseKey y = club("N3R033R133P040", "H");
        due.is("with p2, who does not row: two stand", 3, y.outside(0, 12, 3));
        due.is("STOOD one hour each", 2, y.week(0, 12, 2));
        due.is("one walks, the others need not", 4, y.week(0, 0, 0));
        y.own(2);
        due.is("p1's own key lets p0 in", 0, y.week(0, 12, 2));
        due.is("p0 tries first: it walks", 4, y.week(0, 0, 0));
        y.own(1);
        due.is("p0's own key: nobody walks", 0, y.week(0, 0, 0));
        due.is("and the key lies there still", 0, y.week(0, 0, 3));
        y.own(4);
        due.is("who does not row lets nobody in", 2, y.week(0, 12, 2));
    }

    private static void openToFetch() {
        due.asks("THE KEY lies at a PLACE that is OPEN at h (it WALKS its minutes; THE KEY is INSIDE then)");
        for (int s = 0; s <= 9; s++) {
            for (int e = s; e <= 9; e++) {
                for (int h = 0; h <= 9; h++) {
                    BoathouseKey x = club("N1R0" + h + h + "P374O3" + s + e, "H");
                    boolean open = s <= h && h <= e;
                    due.is("STOOD", open ? 0 : 1, x.week(0, 3, 2));
                    due.is("WALKED", open ? 7 : 0, x.week(0, 3, 0));
                    due.is("RISK", open ? 4 * h : 40, x.week(0, 3, 1));
                    due.is("ITS END", open ? 10 : 3, x.week(0, 3, 3));
                }
            }
        }
    }

    private static void openToLay() {
        due.asks("P: if THE CLUB has that PLACE and it is OPEN at h, THE KEY lies there, THE LAST WALKS; else it takes it home");
        for (int s = 0; s <= 9; s++) {
            for (int e = s; e <= 9; e++) {
                for (int h = 0; h <= 9; h++) {
                    BoathouseKey x = club("N2R1" + h + h + "P374O3" + s + e, "P3");
                    boolean open = s <= h && h <= e;
                    due.is("ITS END", open ? 3 : 11, x.week(0, 11, 3));
                    due.is("WALKED", open ? 7 : 0, x.week(0, 11, 0));
                    due.is("RISK", open ? 4 * (9 - h) : 0, x.week(0, 11, 1));
                }
            }
        }
    }

    private static void risks() {
        due.asks("Then THE KEY, if it lies at a PLACE, has its RISK.");
        for (int r = 0; r <= 9; r++) {
            BoathouseKey x = club("N1P20" + r, "H");
            due.is("ten hours", 10 * r, x.week(0, 2, 1));
            due.is("with a person", 0, x.week(0, 10, 1));
            x.bring(2);
            for (int h = 0; h < 12; h++) {
                x.hour(0);
                due.is("hour by hour", r * (h + 1), x.live(4));
            }
        }
        BoathouseKey y = club("N1R009P299", "H");
        due.is("it is fetched at once", 0, y.week(0, 2, 1));
        BoathouseKey z = club("N1R000P299", "P2");
        due.is("at the hour at which it is laid there is none", 81, z.week(0, 10, 1));
        BoathouseKey w = club("N1P299O200", "H");
        due.is("a place that is not open has it, too", 90, w.week(0, 2, 1));
    }

    private static void lasts() {
        due.asks("If THE KEY is INSIDE and nobody is any more, THE LAST has it");
        for (int e = 2; e <= 8; e++) {
            for (int f = 2; f <= 8; f++) {
                BoathouseKey x = club("N3R20" + e + "R10" + f, "H");
                int last = e > f ? 12 : f > e ? 11 : 12;
                for (int h = 1; h <= 9; h++) {
                    boolean there = h <= Math.max(e, f);
                    due.is("ahead of " + h, there ? 20 : last, x.ahead(0, 11, h));
                }
            }
        }
        due.asks("of those who went from INSIDE now that of the least SESSION");
        BoathouseKey x = club("N4R302R111R012R222", "H");
        due.is("p1 went earlier; p3 of 0, p0 of 2, p2 of 3", 13, x.ahead(0, 13, 3));
        due.asks("If THE KEY is INSIDE (else nobody has it to leave)");
        BoathouseKey y = club("N2R022P011", "P0");
        y.own(1);
        due.is("p0 came by its own key: the key stays with p1", 11, y.week(0, 11, 3));
        due.is("and with p0 itself", 10, y.week(0, 10, 3));
        due.is("and at the place", 0, y.week(0, 0, 3));
        due.is("nobody walks", 0, y.week(0, 10, 0));
    }

    private static void handing() {
        due.asks("If SESSIONS begin at the next HOUR, it is HANDED to the PERSON of the least of these. Else it does the ACT");
        for (int e = 0; e <= 9; e++) {
            for (int t = 0; t <= 9; t++) {
                if (t == e) continue;
                BoathouseKey x = club("N3R0" + e + e + "R2" + t + t + "R1" + t + t + "P052H28", "P0");
                boolean next = t == (e + 1) % 10;
                x.bring(10);
                for (int h = 0; h < e; h++) x.hour(0);
                int before = x.live(3);
                x.bring(10);
                x.hour(0);
                due.is("p0 goes at " + e + ", p2 and p1 come at " + t, next ? 12 : 0, x.where());
                due.is("walked", next ? 0 : 5, x.live(3) - before);
            }
        }
        due.asks("who is handed it walks nothing");
        BoathouseKey y = club("N2R000R111H09H19", "N");
        due.is("walked by N at 1 alone", 9, y.week(0, 10, 0));
    }

    private static void exceptions() {
        due.asks("the ACT of the RULE (the EXCEPTION's of h, if there is one)");
        for (int h = 0; h <= 9; h++) {
            for (int g = 0; g <= 9; g++) {
                BoathouseKey x = club("N1R0" + g + g + "P011P122", h + "P1P0");
                due.is("exception at " + h + ", act at " + g, g == h ? 1 : 0, x.week(0, 10, 3));
            }
        }
    }

    private static void nextRoundTheWeek() {
        due.asks("N: who comes next (HOUR by HOUR from h + 1 on round the week, the first, of like ones the least) has it");
        for (int h = 0; h <= 9; h++) {
            for (int t = 0; t <= 9; t++) {
                for (int u = 0; u <= 9; u++) nextOf(h, t, u);
            }
            BoathouseKey x = club("N1R0" + h + h + "H06", "N");
            due.is("round to h itself", 10, x.week(0, 10, 3));
            due.is("the minutes to that one's home", 6, x.week(0, 10, 0));
        }
    }

    /** p0 goes at h; p2 comes at t, p1 at u: neither at h nor just behind it. */
    private static void nextOf(int h, int t, int u) {
        int toT = (t - h + 9) % 10;
        int toU = (u - h + 9) % 10;
        if (t == h || u == h || toT == 0 || toU == 0) return;
        BoathouseKey x = club("N3R0" + h + h + "R2" + t + t + "R1" + u + u + "H14H27", "N");
        for (int i = 0; i < h; i++) x.hour(0);
        int before = x.live(3);
        x.bring(10);
        x.hour(0);
        boolean second = toT <= toU;
        due.is("from " + h + " to " + t + " and " + u, second ? 12 : 11, x.where());
        due.is("walked", second ? 7 : 4, x.live(3) - before);
    }

    private static void placesThatAreNot() {
        due.asks("P: if THE CLUB has that PLACE; else it takes it home");
        for (int p = 0; p < 4; p++) {
            for (int q = 0; q < 4; q++) {
                BoathouseKey x = club("N2R133P" + p + "50", "P" + q);
                due.is("place " + p + ", act P" + q, p == q ? p : 11, x.week(0, 11, 3));
                due.is("walked", p == q ? 5 : 0, x.week(0, 11, 0));
            }
        }
    }

    private static void begins() {
        due.asks("a BEGIN (0 .. 3, a PLACE that THE CLUB has, or 10 and a PERSON)");
        String[] clubs = {"N1", "N2P000", "N3P311", "N4P100P200", "N5P000P100P200P300", "N6P212O255"};
        for (String text : clubs) {
            BoathouseKey x = Texts.club(text);
            for (int b = -3; b <= 26; b++) {
                boolean is = b >= 10 && b < 10 + x.count(0) || x.place(b, 0) >= 0;
                due.is(text + " week from " + b, is ? b : -1, x.week(0, b, 3));
                due.is(text + " ahead from " + b, is ? b : -1, x.ahead(1, b, 9));
                due.is(text + " never from " + b, is ? 1 : -1, x.never(2, b));
            }
            int[] far = {Integer.MIN_VALUE, Integer.MIN_VALUE + 10, Integer.MAX_VALUE, 99};
            for (int b : far) due.is(text + " week from " + b, -1, x.week(0, b, 3));
        }
    }

    private static void tenHours() {
        due.asks("THE KEY is there at HOUR 0, ten HOURS go by; ITS END: where THE KEY is then");
        tenHoursOf("N3R024R156R238R199P231P018O026O238H09H14", "4P09P0P2", new int[] {0, 2, 10, 11, 12});
        tenHoursOf("N2R012R145H13F5", "N", new int[] {10, 11});
        tenHoursOf("N2R012R145P012H13F5", "P0", new int[] {0, 10, 11});
        tenHoursOf("N6R009R109R209R309R409R509P012F9", "P0", new int[] {0, 10, 15});
    }

    private static void tenHoursOf(String text, String rule, int[] from) {
        for (int begin : from) {
            BoathouseKey x = club(text, rule);
            x.bring(begin);
            for (int h = 0; h < 10; h++) {
                due.is("ahead of " + h, x.where(), x.ahead(0, begin, h));
                int stand = x.outside(0, begin, h);
                due.is("outside at " + h, Integer.bitCount(stand), x.hour(0));
            }
            due.is("WALKED", x.live(3), x.week(0, begin, 0));
            due.is("RISK", x.live(4), x.week(0, begin, 1));
            due.is("STOOD", x.live(5), x.week(0, begin, 2));
            due.is("ITS END", x.where(), x.week(0, begin, 3));
            due.is("nobody is inside at its end", 0, x.live(1));
            due.is("nor outside", 0, x.live(2));
            due.is("the hour that comes next", 0, x.live(0));
        }
    }

    private static void everIs(String text, String rule, int own, int begin, int[] want) {
        BoathouseKey x = club(text, rule);
        x.own(own);
        String[] names = {"LEAD", "LONG"};
        for (int what = 0; what < 2; what++) due.is(text + " " + names[what] + " from " + begin, want[what], x.ever(0, begin, what));
        List<Integer> seen = new ArrayList<>();
        int b = begin;
        for (int i = 0; i < 20 && !seen.contains(b); i++) {
            seen.add(b);
            b = x.week(0, b, 3);
        }
        int lead = seen.indexOf(b);
        due.is("LEAD, week by week", lead, x.ever(0, begin, 0));
        due.is("LONG, week by week", seen.size() - lead, x.ever(0, begin, 1));
        for (int what = 0; what < 3; what++) {
            int sum = 0;
            int all = 0;
            for (int i = 0; i < seen.size(); i++) {
                int one = x.week(0, seen.get(i), what);
                all += one;
                if (i >= lead) sum += one;
            }
            due.is("of all WEEKS of the RING together: " + what, sum, x.ever(0, begin, 2 + what));
            if (what == 2) due.is("never", all == 0 ? 1 : 0, x.never(0, begin));
        }
    }

    private static void forEver() {
        due.asks("till a BEGIN comes that was there before: LEAD WEEKS are ahead of the first of the RING, LONG ones are in it");
        everIs("N1", "H", 0, 10, new int[] {0, 1});
        everIs("N1R000", "H", 0, 10, new int[] {0, 1});
        everIs("N1P012O012", "H", 0, 0, new int[] {0, 1});
        everIs("N2R011P093", "N", 0, 0, new int[] {1, 1});
        everIs("N5R378R499R222", "N", 8, 14, new int[] {2, 1});
        everIs("N5R077R399H47R022R423F8P101R299R356", "P2", 0, 12, new int[] {3, 1});
        String two = "N3R211P231R122R244R067P073R188O039R199H27O249";
        everIs(two, "9P27N6P3P3", 0, 2, new int[] {0, 2});
        everIs(two, "9P27N6P3P3", 0, 0, new int[] {1, 2});
        // p1's own key opens where THE KEY is not at hand: so a ring of two weeks in which nobody stands.
        String ownKeyOpens = "N3R001R100R233R133R066R166P041O003P152O139";
        everIs(ownKeyOpens, "3P0P1", 2, 0, new int[] {0, 2});
        everIs(ownKeyOpens, "3P0P1", 2, 1, new int[] {0, 2});
        everIs(ownKeyOpens, "3P0P1", 2, 10, new int[] {1, 2});
        everIs(ownKeyOpens, "3P0P1", 2, 11, new int[] {0, 1});
        everIs(ownKeyOpens, "3P0P1", 2, 12, new int[] {1, 2});
        ringOfTwoIsTold(ownKeyOpens);
    }

    private static void ringOfTwoIsTold(String text) {
        BoathouseKey x = club(text, "3P0P1");
        x.own(2);
        due.is("WALKED: 5 and 4, then 4 and 5", 18, x.ever(0, 0, 2));
        due.is("RISK: 6 hours of 1, then 6 hours of 2", 18, x.ever(0, 0, 3));
        due.is("STOOD", 0, x.ever(0, 0, 4));
        due.is("never", 1, x.never(0, 0));
        x.own(0);
        due.is("never without an own key", 0, x.never(0, 0));
    }

    private static void leadCounts() {
        due.asks("never: Whether FOR EVER (LEAD, too) nobody STOOD: 1, 0.");
        BoathouseKey x = club("N2R000R114", "N");
        due.is("from p1 p0 stands in the first week alone", 1, x.week(0, 11, 2));
        due.is("ITS END", 10, x.week(0, 11, 3));
        due.is("LEAD", 1, x.ever(0, 11, 0));
        due.is("STOOD in the RING", 0, x.ever(0, 11, 4));
        due.is("never", 0, x.never(0, 11));
        due.is("never from p0", 1, x.never(0, 10));
        due.asks("never: FOR EVER");
        BoathouseKey y = club("N2R055R122", "H");
        due.is("p1, then p0 stands at its hour", 0, y.never(0, 11));
        BoathouseKey z = club("N2R022R155P000", "2P0H");
        due.is("nobody stands in the first week", 0, z.week(0, 10, 2));
        due.is("but then p0 does: p1 has it", 11, z.week(0, 10, 3));
        due.is("never", 0, z.never(0, 10));
        due.is("STOOD in the RING", 1, z.ever(0, 10, 4));
        due.is("LEAD", 1, z.ever(0, 10, 0));
    }

    private static void liveBegins() {
        due.asks("It begins, whenever THE CLUB is made anew, at HOUR 0, PERSON 0 has THE KEY, all TALLIES 0.");
        BoathouseKey x = Texts.club("N3R109R209P044");
        x.bring(0);
        for (int i = 0; i < 3; i++) x.hour(0);
        int[] going = {3, 3, 0, 4, 0, 0};
        for (int what = 0; what < 6; what++) due.is("live " + what, going[what], x.live(what));
        Texts.put(x, "N3R109R209P044");
        x.make();
        for (int what = 0; what < 6; what++) due.is("live " + what, 0, x.live(what));
        due.is("where", 10, x.where());
        for (int i = 0; i < 3; i++) x.hour(0);
        int[] standing = {3, 0, 3, 0, 0, 6};
        for (int what = 0; what < 6; what++) due.is("live " + what, standing[what], x.live(what));
        x.make();
        for (int what = 0; what < 6; what++) due.is("live " + what, 0, x.live(what));
        due.asks("(SESSIONS as bits)");
        BoathouseKey y = Texts.club("N6R000R100R200R300R400R500R011R111");
        due.is("six come in", 0, y.hour(0));
        due.is("then two", 0, y.hour(0));
        BoathouseKey z = Texts.club("N6R102R202R302R402R145R245R345R045");
        z.bring(15);
        due.is("four stand", 4, z.hour(0));
        due.is("sessions 0 .. 3", 15, z.live(2));
        due.is("nobody is inside", 0, z.live(1));
        for (int i = 1; i < 4; i++) z.hour(0);
        z.keep(0);
        due.is("four stand", 4, z.hour(0));
        due.is("sessions 4 .. 7", 240, z.live(2));
        due.is("sessions 4 .. 7", 240, z.outside(0, 15, 4));
        z.again(0);
        z.bring(10);
        due.is("p0 lets them in", 0, z.hour(0));
        due.is("sessions 4 .. 7", 240, z.live(1));
        due.is("nobody is outside", 0, z.live(2));
    }

    private static void talliesGoOn() {
        due.asks("TALLIES of WALKED, RISK, STOOD (week behind week)");
        BoathouseKey x = club("N2R022R155P031", "2P0H");
        int[] walked = {6, 6, 6};
        int[] stood = {0, 1, 2};
        for (int w = 0; w < 3; w++) {
            for (int h = 0; h < 10; h++) x.hour(0);
            due.is("WALKED", walked[w], x.live(3));
            due.is("RISK", 2, x.live(4));
            due.is("STOOD", stood[w], x.live(5));
        }
    }

    private static void bringing() {
        due.asks("THE KEY is brought to a BEGIN: where it was. UNKNOWN; LATE: it is INSIDE.");
        BoathouseKey x = Texts.club("N3R012P291P012O055");
        int was = 10;
        for (int b = -2; b <= 22; b++) {
            boolean is = b == 0 || b == 2 || b >= 10 && b <= 12;
            due.is("bring " + b, is ? was : -1, x.bring(b));
            if (is) was = b;
            due.is("where", was, x.where());
        }
        due.is("to where it is", 12, x.bring(12));
        due.is("a place that is not open", 12, x.bring(0));
        due.is("from there", 0, x.bring(10));
        for (int what = 0; what < 6; what++) due.is("nothing else", 0, x.live(what));
        x.hour(0);
        due.is("before it is inside", 10, x.bring(10));
        x.hour(0);
        due.is("inside", -3, x.bring(10));
        due.is("inside", -3, x.bring(0));
        due.is("UNKNOWN is told ahead of LATE", -1, x.bring(13));
        due.is("UNKNOWN is told ahead of LATE", -1, x.bring(1));
        due.is("UNKNOWN is told ahead of LATE", -1, x.bring(20));
        due.is("still inside", 20, x.where());
        x.hour(0);
        due.is("behind it", 10, x.bring(11));
        BoathouseKey y = Texts.club("N2R003");
        y.own(1);
        y.hour(0);
        due.is("somebody is inside, but not the key", 10, y.bring(11));
        due.is("p0 is inside still", 1, y.live(1));
    }

    private static void slots() {
        due.asks("SLOTS 0 .. 1 keep what is LIVE.");
        BoathouseKey x = Texts.club("N2R014R134P035");
        int[] none = {-1, 2, 3, Integer.MIN_VALUE, Integer.MAX_VALUE};
        for (int slot : none) {
            due.is("keep " + slot, -1, x.keep(slot));
            due.is("again " + slot, -1, x.again(slot));
        }
        due.asks("again: LATE: none was kept.");
        due.is("again 0", -3, x.again(0));
        due.is("again 1", -3, x.again(1));
        due.asks("keep: 1 (0: other was kept there)");
        due.is("keep 0", 1, x.keep(0));
        due.is("keep 0 again", 0, x.keep(0));
        due.is("slot 1 is empty still", -3, x.again(1));
        x.bring(0);
        x.hour(0);
        x.hour(0);
        due.is("keep 1", 1, x.keep(1));
        x.hour(0);
        x.hour(0);
        due.asks("It is as it was kept: its HOUR.");
        due.is("again 0", 0, x.again(0));
        due.is("where", 10, x.where());
        for (int what = 0; what < 6; what++) due.is("live " + what, 0, x.live(what));
        int[] kept = {2, 1, 0, 3, 5, 0};
        due.is("again 1", 2, x.again(1));
        due.is("where", 20, x.where());
        for (int what = 0; what < 6; what++) due.is("live " + what, kept[what], x.live(what));
        x.hour(0);
        due.is("it may be asked for twice", 2, x.again(1));
        due.is("other was kept there", 0, x.keep(0));
        due.is("now it is kept in both", 2, x.again(0));
        due.is("inside", 1, x.live(1));
        keptAtTheWeeksEnd();
    }

    private static void keptAtTheWeeksEnd() {
        due.asks("It is as it was kept: its HOUR (0 .. 9)");
        BoathouseKey x = Texts.club("N2R189");
        for (int h = 0; h < 9; h++) x.hour(0);
        due.is("p1 stands", 1, x.live(2));
        x.keep(1);
        x.hour(0);
        x.keep(0);
        due.is("the last hour", 9, x.again(1));
        due.is("who stands", 1, x.live(2));
        due.is("stood", 1, x.live(5));
        due.is("round the week", 0, x.again(0));
        due.is("who stands", 0, x.live(2));
        due.is("stood", 2, x.live(5));
    }

    private static void row() {
        due.asks("THE ROW (99 at first: it is not told)");
        BoathouseKey first = new BoathouseKey();
        due.is("judge", -9, first.judge(0, 10));
        for (int h = 0; h < 10; h++) due.is("tell of " + h, 99, first.tell(h, 10));
        due.is("judge", -9, first.judge(0, 10));
        due.asks("THE ROW tells of an HOUR where THE KEY should be (0 .. 3, 10 .. 15, 20, 99): what it told. UNKNOWN: hour; BAD.");
        BoathouseKey x = Texts.club("N1");
        int told = 99;
        for (int w = -2; w <= 101; w++) {
            boolean is = w == 99 || isWhere(w);
            due.is("tell " + w, is ? told : -2, x.tell(9, w));
            if (is) told = w;
        }
        int[] none = {-1, 10, 11, Integer.MIN_VALUE, Integer.MAX_VALUE};
        for (int h : none) {
            due.is("hour " + h, -1, x.tell(h, 20));
            due.is("UNKNOWN is told ahead of BAD", -1, x.tell(h, 21));
        }
        due.is("nothing changed", 99, x.tell(9, 99));
        due.is("far", -2, x.tell(0, Integer.MIN_VALUE));
        due.is("far", -2, x.tell(0, Integer.MAX_VALUE));
        for (int h = 0; h < 10; h++) due.is("99 at first", 99, x.tell(h, 10 + h % 6));
        for (int h = 0; h < 10; h++) due.is("each hour its own", 10 + h % 6, x.tell(h, 99));
    }

    private static boolean isWhere(int where) {
        for (int w : WHERES) if (w == where) return true;
        return false;
    }

    private static void judging() {
        due.asks("JUDGED by a RULE from a BEGIN: the first HOUR that is told otherwise; NONE.");
        int[] ahead = {11, 11, 20, 20, 0, 0, 0, 10, 10, 10};
        for (int h = 0; h < 10; h++) {
            for (int w : WHERES) {
                BoathouseKey x = club("N2R113R066P010", "3P0H");
                x.tell(h, w);
                due.is("one hour is told", w == ahead[h] ? -9 : h, x.judge(0, 11));
            }
        }
        BoathouseKey x = club("N2R113R066P010", "3P0H");
        due.is("nothing is told", -9, x.judge(0, 11));
        for (int h = 0; h < 10; h++) x.tell(h, ahead[h]);
        due.is("all is as told", -9, x.judge(0, 11));
        for (int h = 9; h >= 0; h--) {
            x.tell(h, 13);
            due.is("the first hour told otherwise", h, x.judge(0, 11));
        }
        for (int h = 0; h < 10; h++) {
            due.is("the first hour told otherwise", h, x.judge(0, 11));
            x.tell(h, 99);
        }
        due.is("99: it is not told", -9, x.judge(0, 11));
    }
}
