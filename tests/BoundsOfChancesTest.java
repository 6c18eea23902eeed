/** The bounds that passage 4 and the fractions of passage 6 name, and promises 36 to 39: on each side of each. */
public final class BoundsOfChancesTest {
    private static final Due due = new Due();
    private static final int[] WHERES = {0, 1, 2, 3, 10, 11, 12, 13, 14, 15, 20};

    public static void main(String[] args) {
        tenths();
        noForgetting();
        forgettingWhereOpen();
        forgettingByActs();
        mostActs();
        chanceHourByHour();
        everySomewhere();
        wheres();
        means();
        leastTerms();
        looking();
        lookingWhereOpen();
        lookingWhereItMayLie();
        due.end();
    }

    private static BoathouseKey club(String text, String rule) {
        BoathouseKey x = Texts.club(text);
        Texts.rule(x, 0, rule);
        return x;
    }

    private static void mean(BoathouseKey x, int begin, long above, long below) {
        due.fraction("mean from " + begin, above, below, x.mean(0, begin, true), x.mean(0, begin, false));
    }

    private static void dry(BoathouseKey x, int begin, long above, long below) {
        due.fraction("dry from " + begin, above, below, x.dry(0, begin, true), x.dry(0, begin, false));
    }

    private static void chance(BoathouseKey x, int begin, int hour, int where, long above, long below) {
        due.fraction("chance at " + hour + " of " + where, above, below,
            x.chance(0, begin, hour, where, true), x.chance(0, begin, hour, where, false));
    }

    private static long divisor(long one, long other) {
        return other == 0 ? one : divisor(other, one % other);
    }

    private static void tenths() {
        due.asks("THE LAST forgets in f tenths (1 .. 9; else 0), and takes THE KEY home instead");
        for (int f = 0; f <= 9; f++) {
            BoathouseKey x = club("N2R022R155P012" + (f == 0 ? "" : "F" + f), "P0");
            long not = divisor(10 - f, 10);
            dry(x, 10, (10 - f) / not, 10 / not);
            long yes = divisor(f, 10);
            mean(x, 10, f / yes, 10 / yes);
            chance(x, 10, 3, 0, (10 - f) / not, 10 / not);
            chance(x, 10, 3, 10, f / yes, 10 / yes);
            chance(x, 10, 3, 11, 0, 1);
        }
    }

    private static void noForgetting() {
        due.asks("each time an ACT of a RULE (not one of H, nor what is HANDED) would be done");
        for (int f = 1; f <= 9; f++) {
            BoathouseKey x = club("N2R022R155P012F" + f, "H");
            dry(x, 10, 0, 1);
            mean(x, 10, 1, 1);
            chance(x, 10, 9, 10, 1, 1);
            BoathouseKey y = club("N2R022R133P012F" + f, "3HP0");
            dry(y, 10, 1, 1);
            mean(y, 10, 0, 1);
            chance(y, 10, 3, 11, 1, 1);
            chance(y, 10, 9, 11, 1, 1);
            BoathouseKey z = club("N2R099R100P012F" + f, "P0");
            chance(z, 10, 9, 10, 1, 1);
            due.is("handed round the week", 11, z.week(0, 10, 3));
        }
    }

    private static void forgettingWhereOpen() {
        due.asks("(P at a PLACE that is not there or OPEN is no forgetting, but likewise)");
        for (int s = 0; s <= 9; s++) {
            for (int e = s; e <= 9; e++) {
                for (int h = 0; h <= 8; h++) {
                    boolean open = s <= h && h <= e;
                    BoathouseKey x = club("N1R0" + h + h + "P110F3O1" + s + e, "P1");
                    chance(x, 10, h + 1, 1, open ? 7 : 0, open ? 10 : 1);
                    chance(x, 10, h + 1, 10, open ? 3 : 1, open ? 10 : 1);
                }
            }
        }
        for (int p = 0; p < 4; p++) {
            BoathouseKey x = club("N1R044P110F3", "P" + p);
            chance(x, 10, 5, p, p == 1 ? 7 : 0, p == 1 ? 10 : 1);
            chance(x, 10, 5, 10, p == 1 ? 3 : 1, p == 1 ? 10 : 1);
        }
    }

    private static void forgettingByActs() {
        due.asks("each time an ACT of a RULE would be done");
        BoathouseKey x = club("N3R011R144R277P012F4", "N");
        dry(x, 10, 9, 25);
        chance(x, 10, 2, 11, 3, 5);
        chance(x, 10, 2, 10, 2, 5);
        chance(x, 10, 5, 12, 9, 25);
        chance(x, 10, 5, 11, 6, 25);
        chance(x, 10, 9, 10, 2 * 25 + 27, 125);
        due.asks("the EXCEPTION's of h: H is not forgotten, the other is");
        BoathouseKey y = club("N2R022R155P012F4", "2HP0");
        chance(y, 10, 3, 10, 1, 1);
        BoathouseKey z = club("N2R022R155P012F4", "2P0H");
        chance(z, 10, 3, 10, 2, 5);
        chance(z, 10, 6, 11, 3, 5);
        due.asks("what is LIVE, WEEKS and FOR EVER forget nothing");
        due.is("week", 0, x.week(0, 10, 2));
        due.is("never", 1, x.never(0, 10));
        for (int h = 0; h < 10; h++) due.is("hour " + h, 0, x.hour(0));
    }

    private static void mostActs() {
        due.asks("FRACTIONS are told above (upper = true), below, in least terms (five times forgotten or not)");
        for (int f = 1; f <= 9; f++) {
            BoathouseKey x = club("N5R000R122R244R366R488P000F" + f, "P0");
            long not = 10 - f;
            long all = 100000;
            long five = not * not * not * not * not;
            chance(x, 10, 9, 0, five / divisor(five, all), all / divisor(five, all));
            chance(x, 10, 9, 10, f / divisor(f, 10), 10 / divisor(f, 10));
            long four = not * not * not * not;
            dry(x, 10, four / divisor(four, 10000), 10000 / divisor(four, 10000));
            long fifth = f * four;
            chance(x, 10, 9, 14, fifth / divisor(fifth, all), all / divisor(fifth, all));
        }
    }

    private static void chanceHourByHour() {
        due.asks("THE CHANCE of where THE KEY is at an HOUR of a WEEK, ahead of who comes");
        BoathouseKey x = club("N2R013R178P012O009F5", "P0");
        for (int h = 0; h <= 9; h++) {
            boolean before = h <= 1;
            boolean rows = h == 2 || h == 3;
            chance(x, 10, h, 10, before ? 1 : rows ? 0 : 1, before || rows ? 1 : 2);
            chance(x, 10, h, 20, rows ? 1 : h == 8 ? 1 : 0, rows ? 1 : h == 8 ? 2 : 1);
            chance(x, 10, h, 0, before || rows || h == 8 ? 0 : 1, before || rows || h == 8 ? 1 : h == 9 ? 4 : 2);
            chance(x, 10, h, 11, h == 9 ? 1 : 0, h == 9 ? 4 : 1);
        }
        due.asks("a WEEK from a BEGIN: THE KEY is there at HOUR 0");
        int[] begins = {0, 10, 11};
        for (int begin : begins) {
            for (int w : WHERES) chance(x, begin, 0, w, w == begin ? 1 : 0, 1);
        }
    }

    /** At each hour the key is somewhere: in all the chances are 1. */
    private static void everySomewhere() {
        due.asks("THE CHANCE that THE KEY is somewhere (0 .. 3, 10 .. 15, 20)");
        String text = "N4R012R134R256R378R099P023P112O107H24F3";
        int[] begins = {0, 1, 10, 11, 12, 13};
        for (int begin : begins) {
            for (int h = 0; h <= 9; h++) {
                BoathouseKey x = club(text, "2P14P06NP0");
                long all = 0;
                for (int w : WHERES) all += 100000 / x.chance(0, begin, h, w, false) * x.chance(0, begin, h, w, true);
                due.is("all chances from " + begin + " at " + h, 100000, all);
            }
        }
    }

    private static void wheres() {
        due.asks("THE CHANCE: somewhere (0 .. 3, 10 .. 15, 20). UNKNOWN: rule, begin, hour; BAD.");
        BoathouseKey x = club("N1R044P110F3", "P1");
        for (int w = -2; w <= 101; w++) {
            boolean is = w >= 0 && w <= 3 || w >= 10 && w <= 15 || w == 20;
            int want = !is ? -2 : w == 10 ? 1 : 0;
            due.is("above at " + w, want, x.chance(0, 10, 0, w, true));
            due.is("below at " + w, is ? 1 : -2, x.chance(0, 10, 0, w, false));
            due.is("UNKNOWN is told ahead of BAD", -1, x.chance(0, 10, 10, w, false));
        }
        BoathouseKey y = club("N1R044P110F3", "P1");
        int[] none = {-1, 10, Integer.MIN_VALUE, Integer.MAX_VALUE};
        for (int h : none) {
            due.is("chance at " + h, -1, y.chance(0, 10, h, 0, true));
            due.is("chance at " + h, -1, y.chance(0, 10, h, 21, true));
            due.is("look at " + h, -1, y.look(0, 10, h, 0));
        }
        for (int r = -1; r <= 3; r++) {
            for (int b = 9; b <= 11; b++) {
                boolean is = r >= 0 && r <= 2 && b == 10;
                due.is("mean", is ? 0 : -1, y.mean(r, b, true));
                due.is("mean", is ? 1 : -1, y.mean(r, b, false));
                due.is("dry", is ? 1 : -1, y.dry(r, b, true));
                due.is("dry", is ? 1 : -1, y.dry(r, b, false));
                due.is("chance", is ? 0 : -1, y.chance(r, b, 0, 20, true));
                due.is("look", is ? -9 : -1, y.look(r, b, 0, 0));
            }
        }
    }

    private static void means() {
        due.asks("THE MEAN: how many hours are STOOD in a WEEK from a BEGIN; DRY: the chance that nobody STOOD in it");
        BoathouseKey x = Texts.club("N1");
        mean(x, 10, 0, 1);
        dry(x, 10, 1, 1);
        BoathouseKey y = Texts.club("N6R009R109R209R309R409");
        mean(y, 15, 50, 1);
        dry(y, 15, 0, 1);
        mean(y, 10, 0, 1);
        dry(y, 10, 1, 1);
        BoathouseKey z = club("N2R000R129P000F5", "P0");
        mean(z, 10, 4, 1);
        dry(z, 10, 1, 2);
        BoathouseKey w = club("N2R000R129P000F1", "P0");
        mean(w, 10, 4, 5);
        dry(w, 10, 9, 10);
    }

    private static void leastTerms() {
        due.asks("in least terms");
        BoathouseKey x = club("N3R000R122R244P000F2", "P0");
        dry(x, 10, 16, 25);
        // p1 and p2 stand, if p0 forgot; p2, if p1 did.
        mean(x, 10, 2 * 5 + 4, 25);
        chance(x, 10, 3, 0, 16, 25);
        chance(x, 10, 3, 10, 1, 5);
        chance(x, 10, 3, 11, 4, 25);
        chance(x, 10, 5, 0, 64, 125);
    }

    private static void looking() {
        due.asks("look: the i-th PLACE (from 0); NONE: there is none such.");
        BoathouseKey x = club("N2R022P312P000F5", "P3");
        int[] none = {-1, 1, 2, 3, 4, -2, Integer.MIN_VALUE, Integer.MAX_VALUE};
        due.is("0", 3, x.look(0, 10, 3, 0));
        for (int i : none) due.is("i " + i, -9, x.look(0, 10, 3, i));
        for (int i : none) due.is("UNKNOWN all the same", -1, x.look(0, 10, 10, i));
        for (int h = 0; h <= 9; h++) due.is("hour " + h, h <= 2 ? -9 : 3, x.look(0, 10, h, 0));
        for (int h = 0; h <= 9; h++) due.is("nobody fetches it: hour " + h, 0, Texts.club("N1P000").look(0, 0, h, 0));
    }

    private static void lookingWhereOpen() {
        due.asks("PLACES of THE CLUB that are OPEN at that HOUR");
        for (int s = 0; s <= 9; s++) {
            for (int e = s; e <= 9; e++) {
                BoathouseKey x = Texts.club("N1P255P100O2" + s + e);
                for (int h = 0; h <= 9; h++) due.is("hour " + h, s <= h && h <= e ? 2 : -9, x.look(0, 2, h, 0));
            }
        }
    }

    private static void lookingWhereItMayLie() {
        due.asks("TO LOOK: where it may lie");
        for (int f = 0; f <= 9; f++) {
            BoathouseKey x = club("N2R022R155P012P100P203" + (f == 0 ? "" : "F" + f), "2P25P1P0");
            due.is("at 2", -9, x.look(0, 10, 2, 0));
            due.is("at 3", 2, x.look(0, 10, 3, 0));
            due.is("at 3, no other", -9, x.look(0, 10, 3, 1));
            due.is("at 5", 2, x.look(0, 10, 5, 0));
            due.is("at 6", 1, x.look(0, 10, 6, 0));
            due.is("at 6, no other", -9, x.look(0, 10, 6, 1));
            due.is("from p1, who rows at 5, at 3", -9, x.look(0, 11, 3, 0));
            due.is("from place 0 at 2", 0, x.look(0, 0, 2, 0));
            due.is("from place 0 at 3", 2, x.look(0, 0, 3, 0));
        }
    }
}
