/** Each promise by hand: ordinary inputs, the edges that the document names, wrong inputs. */
public final class PromisesTest {
    private static int wrong = 0;

    private static void due(int promise, String what, long want, long got) {
        if (want != got) {
            wrong++;
            System.out.println("promise " + promise + ": " + what + " answered " + got + ", due is " + want);
        }
    }

    /** p0 rows 1-2, p1 rows 4-5; place 0: 3 minutes, risk 2; home of p1 4 minutes; half is forgotten. */
    private static final String PAIR = "N2R012R145P032H14F5";

    private static BoathouseKey pair() {
        BoathouseKey x = Texts.club(PAIR);
        Texts.rule(x, 0, "P0");
        Texts.rule(x, 1, "H");
        Texts.rule(x, 2, "N");
        return x;
    }

    public static void main(String[] args) {
        aNewObject();
        writeAndWipe();
        faultsOfClubs();
        faultsOfRules();
        making();
        ruling();
        whatAClubHas();
        ownKeys();
        hours();
        ownKeyAndTheKey();
        lastsAndHands();
        acts();
        bringing();
        slots();
        shiftAndAgain();
        weeks();
        rings();
        theRow();
        bestWays();
        bars();
        shortRules();
        fewestKeys();
        moving();
        fitting();
        forgetting();
        looking();
        refusalsInOrder();
        System.out.println(wrong == 0 ? "all promises hold" : wrong + " answers are not as due");
        if (wrong != 0) System.exit(1);
    }

    private static void aNewObject() {
        BoathouseKey x = new BoathouseKey();
        int[] counts = {1, 0, 0, 0, 0};
        for (int i = 0; i < 5; i++) due(1, "count " + i, counts[i], x.count(i));
        due(40, "count(-1)", -2, x.count(-1));
        due(40, "count(5)", -2, x.count(5));
        for (int r = 0; r < 3; r++) for (int h = 0; h < 10; h++) due(1, "ruled", 4, x.ruled(r, h));
        due(1, "home", 0, x.home(0));
        due(1, "where", 10, x.where());
        for (int i = 0; i < 6; i++) due(1, "live " + i, 0, x.live(i));
        due(1, "again", -3, x.again(0));
        due(1, "tell", 99, x.tell(0, 20));
        due(1, "own", 0, x.own(1));
        due(1, "find", 0, x.find(9, 9));
        due(1, "from", 10, x.from(9, 9));
        due(1, "way", 0, x.way(9, 9, 9));
        due(1, "bar", 10, x.bar());
        due(1, "brief", 0, x.brief(10, 1, 1));
        due(1, "dry", 1, x.dry(0, 10, true));
        due(1, "dry", 1, x.dry(0, 10, false));
        due(1, "mean", 0, x.mean(0, 10, true));
        due(1, "mean", 1, x.mean(0, 10, false));
    }

    private static void writeAndWipe() {
        BoathouseKey x = new BoathouseKey();
        due(2, "n 0", -2, x.write(0, 0));
        due(2, "n 9", -2, x.write(9, 0));
        due(2, "n -1", -2, x.write(-1, 0));
        due(2, "the lowest, the highest of these first", 2, x.write(2, 0x7f7f7f7f_00004e33L));
        due(5, "make N3", 3, x.make());
        due(2, "a full word", 10, x.write(8, -1L));
        due(4, "fault behind N3", 2, x.fault(false));
        for (int i = 0; i < 6; i++) due(2, "more", 18 + 8 * i, x.write(8, 0));
        due(2, "too long", -4, x.write(7, 0));
        due(2, "just fits", 64, x.write(6, 0));
        due(2, "full", -4, x.write(1, 0));
        due(2, "BAD is told ahead of FULL", -2, x.write(9, 0));
        due(40, "bytes", 64, x.count(4));
        due(3, "wipe", 64, x.wipe());
        due(3, "wipe again", 0, x.wipe());
        due(40, "bytes", 0, x.count(4));
        due(2, "behind a wipe", 1, x.write(1, 'N'));
        due(4, "the old bytes are gone", 1, x.fault(false));
    }

    private static void clubFault(String text, int want) {
        BoathouseKey x = new BoathouseKey();
        Texts.put(x, text);
        due(4, "fault of club " + text, want, x.fault(false));
        due(5, "make of " + text, want == -9 ? text.charAt(1) - '0' : -3, x.make());
    }

    private static void faultsOfClubs() {
        clubFault("", 0);
        clubFault("N", 1);
        clubFault("N0", 1);
        clubFault("N7", 1);
        clubFault("N6", -9);
        clubFault("R012", 0);
        clubFault("N1N1", 2);
        clubFault("n1", 0);
        clubFault("N1 ", 2);
        clubFault("N1R", 3);
        clubFault("N1R1", 3);
        clubFault("N1R09", 5);
        clubFault("N1R098", 5);
        clubFault("N1R099", -9);
        clubFault("N1R0\0", 4);
        clubFault("N1R0:", 4);
        clubFault("N1R0/", 4);
        clubFault("N1R0\u00ff", 4);
        clubFault("N1R024R05", 9);
        clubFault("N1R024R03", 8);
        clubFault("N1R024R012", 9);
        clubFault("N1R024R011", -9);
        clubFault("N2R024R124", -9);
        clubFault("N2R009R0", 7);
        clubFault("N2R009R1", 8);
        clubFault("N1R009R", 6);
        clubFault("N2R009R109P", 11);
        clubFault("N2R009R109R", 10);
        clubFault("N1R000R011R022R033R044R055R066R077", -9);
        clubFault("N1R000R011R022R033R044R055R066R077R", 34);
        clubFault("N1P4", 3);
        clubFault("N1P399", -9);
        clubFault("N1P300P3", 7);
        clubFault("N1P300P000P100P200", -9);
        clubFault("N1P300P000P100P200P", 18);
        clubFault("N1O", 2);
        clubFault("N1P011O1", 7);
        clubFault("N1P011O0", 8);
        clubFault("N1P011O054", 9);
        clubFault("N1P011O055", -9);
        clubFault("N1P011O055O", 10);
        clubFault("N1P011O055P111O0", 15);
        clubFault("N1O055P011", 2);
        clubFault("N1P000P100O055O155O", 18);
        clubFault("N1P000P100P200O055O155O0", 23);
        clubFault("N1P000P100P200O055O155O2", 24);
        clubFault("N1R000R011R00", 12);
        clubFault("N1F1", -9);
        clubFault("N2H2", 3);
        clubFault("N2H19H1", 6);
        clubFault("N2H19H09", -9);
        clubFault("N2H19H09H", 8);
        clubFault("N1F", 3);
        clubFault("N1F0", 3);
        clubFault("N1F9", -9);
        clubFault("N1F9F", 4);
        clubFault("N1F9R000H01P000O009", -9);
        clubFault("N6R000R101R202R303R404R505P000P111P222P333O001O112O223O334H01H12", -9);
    }

    private static void ruleFault(String text, int want) {
        BoathouseKey x = new BoathouseKey();
        Texts.put(x, text);
        due(4, "fault of rule " + text, want, x.fault(true));
        due(6, "rule of " + text, want == -9 ? 0 : -3, Math.min(0, x.rule(0)));
    }

    private static void faultsOfRules() {
        ruleFault("", 0);
        ruleFault("H", -9);
        ruleFault("N", -9);
        ruleFault("P", 1);
        ruleFault("P4", 1);
        ruleFault("P3", -9);
        ruleFault("PH", 1);
        ruleFault("HH", 1);
        ruleFault("H0", 1);
        ruleFault("0", 1);
        ruleFault("00", 1);
        ruleFault("0H", 2);
        ruleFault("0H0", 2);
        ruleFault("0H1", 3);
        ruleFault("0P", 2);
        ruleFault("0P0", 3);
        ruleFault("0P01", 4);
        ruleFault("0P00", 3);
        ruleFault("0P0P3", -9);
        ruleFault("X", 0);
        ruleFault("h", 0);
        ruleFault("9N8H7P06P15P24P33N2N1N0NP1", -9);
        ruleFault("9N8H7P06P15P24P33N2N1N0N1", 24);
    }

    private static void making() {
        BoathouseKey x = pair();
        x.own(3);
        x.keep(0);
        x.tell(3, 1);
        x.hour(0);
        x.bring(0);
        x.hour(0);
        Texts.put(x, "N3F");
        due(5, "LATE", -3, x.make());
        due(5, "nothing changed: people", 2, x.count(0));
        due(5, "nothing changed: hour", 2, x.live(0));
        due(5, "nothing changed: own", 3, x.own(1));
        Texts.put(x, "N3");
        due(5, "make", 3, x.make());
        due(5, "text stays", 2, x.count(4));
        due(5, "own", 0, x.own(7));
        due(5, "rules stay", 0, x.ruled(0, 3));
        due(5, "kept is gone", -3, x.again(0));
        due(5, "the row", 99, x.tell(3, 1));
        due(5, "where", 10, x.where());
        for (int i = 0; i < 6; i++) due(5, "live " + i, 0, x.live(i));
        due(5, "sessions", 0, x.count(1));
        due(5, "places", 0, x.count(2));
        due(5, "forgetting", 0, x.count(3));
        due(5, "home", 0, x.home(1));
        due(5, "again the same text", 3, x.make());
    }

    private static void ruling() {
        BoathouseKey x = new BoathouseKey();
        Texts.put(x, "9N0P3H");
        due(6, "UNKNOWN", -1, x.rule(-1));
        due(6, "UNKNOWN", -1, x.rule(3));
        due(6, "exceptions", 2, x.rule(1));
        due(7, "ruled", 3, x.ruled(1, 0));
        due(7, "ruled", 4, x.ruled(1, 1));
        due(7, "ruled", 5, x.ruled(1, 9));
        due(7, "others stay", 4, x.ruled(0, 0));
        Texts.put(x, "0N0");
        due(6, "LATE", -3, x.rule(1));
        due(6, "UNKNOWN ahead of LATE", -1, x.rule(3));
        due(6, "nothing changed", 3, x.ruled(1, 0));
        due(7, "UNKNOWN", -1, x.ruled(3, 0));
        due(7, "UNKNOWN", -1, x.ruled(-1, 0));
        due(7, "UNKNOWN", -1, x.ruled(0, 10));
        due(7, "UNKNOWN", -1, x.ruled(0, -1));
        due(31, "put", 1, x.put(1, 365));
        due(31, "9 N, else N", 5, x.ruled(1, 9));
        due(31, "9 N, else N", 5, x.ruled(1, 0));
        due(31, "put", 1, x.put(1, 6 + 36 * 4 + 6 * 2 + 3));
        due(31, "4 P2, else P3", 2, x.ruled(1, 4));
        due(31, "4 P2, else P3", 3, x.ruled(1, 5));
        due(31, "4 P2, else P3", 3, x.ruled(1, 3));
        due(31, "put", 0, x.put(1, 5));
        due(31, "N", 5, x.ruled(1, 4));
        due(31, "put", 1, x.put(2, 6));
        due(31, "0 P0, else P0", 0, x.ruled(2, 9));
        due(31, "BAD", -2, x.put(1, 366));
        due(31, "BAD", -2, x.put(1, -1));
        due(31, "UNKNOWN", -1, x.put(3, 0));
        due(31, "UNKNOWN ahead of BAD", -1, x.put(-1, 366));
        due(31, "nothing changed", 5, x.ruled(1, 4));
    }

    private static void whatAClubHas() {
        BoathouseKey x = Texts.club("N4R309R012R044P289O236P000H37F4");
        due(8, "person", 3, x.session(0, 0));
        due(8, "first", 0, x.session(0, 1));
        due(8, "last", 9, x.session(0, 2));
        due(8, "first", 4, x.session(2, 1));
        due(8, "BAD", -2, x.session(0, 3));
        due(8, "BAD", -2, x.session(0, -1));
        due(8, "UNKNOWN", -1, x.session(3, 0));
        due(8, "UNKNOWN", -1, x.session(-1, 3));
        due(9, "minutes", 8, x.place(2, 0));
        due(9, "risk", 9, x.place(2, 1));
        due(9, "open", 3, x.place(2, 2));
        due(9, "open", 6, x.place(2, 3));
        due(9, "always open", 0, x.place(0, 2));
        due(9, "always open", 9, x.place(0, 3));
        due(9, "BAD", -2, x.place(0, 4));
        due(9, "BAD", -2, x.place(0, -1));
        due(9, "UNKNOWN", -1, x.place(1, 0));
        due(9, "UNKNOWN", -1, x.place(4, 9));
        due(9, "UNKNOWN", -1, x.place(-1, 0));
        due(10, "home", 7, x.home(3));
        due(10, "home", 0, x.home(0));
        due(10, "UNKNOWN", -1, x.home(4));
        due(10, "UNKNOWN", -1, x.home(-1));
        int[] counts = {4, 3, 2, 4, 31};
        for (int i = 0; i < 5; i++) due(40, "count " + i, counts[i], x.count(i));
    }

    private static void ownKeys() {
        BoathouseKey x = pair();
        due(11, "own", 0, x.own(3));
        due(11, "BAD", -2, x.own(4));
        due(11, "BAD", -2, x.own(-1));
        due(11, "BAD", -2, x.own(Integer.MIN_VALUE));
        due(11, "own", 3, x.own(2));
        due(11, "own", 2, x.own(0));
        Texts.put(x, "N6");
        x.make();
        due(11, "own", 0, x.own(63));
        due(11, "BAD", -2, x.own(64));
    }

    private static void hours() {
        BoathouseKey x = pair();
        due(12, "UNKNOWN", -1, x.hour(3));
        due(12, "UNKNOWN", -1, x.hour(-1));
        due(15, "nothing went by", 0, x.live(0));
        due(12, "hour 0", 0, x.hour(0));
        due(12, "hour 1", 0, x.hour(0));
        due(13, "inside", 20, x.where());
        due(15, "who is inside", 1, x.live(1));
        due(14, "LATE", -3, x.bring(10));
        due(12, "hour 2", 0, x.hour(0));
        due(13, "at the place", 0, x.where());
        due(15, "walked", 3, x.live(3));
        due(15, "no risk yet", 0, x.live(4));
        due(12, "hour 3", 0, x.hour(0));
        due(15, "risk", 2, x.live(4));
        due(12, "hour 4", 0, x.hour(0));
        due(15, "walked", 6, x.live(3));
        due(15, "who is inside", 2, x.live(1));
        due(12, "hour 5, home", 0, x.hour(1));
        due(13, "home", 11, x.where());
        for (int h = 6; h < 10; h++) due(12, "hours 6 to 9", 0, x.hour(1));
        due(15, "round the week", 0, x.live(0));
        x.hour(0);
        due(12, "p0 stands at 1", 1, x.hour(0));
        due(15, "outside", 1, x.live(2));
        due(14, "bring", 11, x.bring(0));
        due(12, "p0 comes in late", 0, x.hour(2));
        due(15, "nobody outside", 0, x.live(2));
        due(15, "stood", 1, x.live(5));
        due(15, "walked: 3 to fetch, 4 to the home of p1", 13, x.live(3));
        due(13, "with p1", 11, x.where());
        due(15, "BAD", -2, x.live(6));
        due(15, "BAD", -2, x.live(-1));
        BoathouseKey y = pair();
        y.bring(11);
        y.hour(1);
        due(12, "p0 stands at 1", 1, y.hour(1));
        due(12, "p0 stands at 2", 1, y.hour(1));
        due(15, "and goes", 0, y.live(2));
        due(15, "stood", 2, y.live(5));
        BoathouseKey z = Texts.club("N3R012R113R223");
        z.bring(12);
        z.hour(0);
        due(12, "two stand", 2, z.hour(0));
        due(15, "as bits", 3, z.live(2));
        due(12, "the third lets them in", 0, z.hour(0));
        due(15, "who is left", 6, z.live(1));
    }

    /** An own key is named ahead of the key, and so is that anybody is inside: the key then stays with its person. */
    private static void ownKeyAndTheKey() {
        BoathouseKey x = Texts.club("N2R000R122R055");
        x.own(1);
        due(12, "p0 comes in by its own key", 0, x.hour(0));
        due(13, "the key stays with p0", 10, x.where());
        due(19, "ahead of hour 2", 10, x.ahead(0, 10, 2));
        due(18, "p1 stands", 1, x.week(0, 10, 2));
        BoathouseKey y = Texts.club("N2R002R112");
        y.own(1);
        y.bring(11);
        y.hour(0);
        due(12, "p1 comes in with p0", 0, y.hour(0));
        due(13, "the key stays with p1", 11, y.where());
        due(14, "so it can be brought", 11, y.bring(10));
        BoathouseKey z = Texts.club("N2R000R100P050");
        z.own(2);
        due(18, "p0 is the first who tries: it fetches", 5, z.week(0, 0, 0));
        due(19, "p0 has it then", 10, z.ahead(0, 0, 1));
        z.own(1);
        due(18, "p0 needs none", 0, z.week(0, 0, 0));
        due(19, "it lies there still", 0, z.ahead(0, 0, 1));
        due(18, "with p1, who comes in with p0", 11, z.week(0, 11, 3));
    }

    private static void lastsAndHands() {
        BoathouseKey x = Texts.club("N4R213R303R013R156R099R200");
        Texts.rule(x, 1, "N");
        due(19, "three go at 3: the last is p2 of session 0", 12, x.ahead(0, 13, 4));
        due(20, "p3 and p2 stand at 0", 34, x.outside(0, 10, 0));
        due(20, "p2's session is over at 1, and p0 lets all in", 0, x.outside(0, 10, 1));
        due(18, "stood", 5, x.week(0, 10, 2));
        due(19, "N: p1 comes at 5", 11, x.ahead(1, 13, 4));
        due(19, "N: p0 comes at 9", 10, x.ahead(1, 13, 7));
        due(18, "handed to p3: its session is less than p2's", 13, x.week(1, 13, 3));
        due(22, "for ever", 1, x.never(1, 13));
    }

    private static void acts() {
        // p1 and p2 leave at 2, of these session 0 is p2's; nobody begins at 3.
        BoathouseKey x = Texts.club("N3R212R112R055P043O007P111O149H26");
        Texts.rule(x, 0, "P0");
        Texts.rule(x, 1, "P1");
        Texts.rule(x, 2, "N");
        due(19, "P0 from p1", 0, x.ahead(0, 11, 3));
        due(19, "P1 is not open at 2: the last is p2", 12, x.ahead(1, 11, 3));
        due(19, "N: p0 comes at 5", 10, x.ahead(2, 11, 3));
        due(18, "N walks 0 to p0, then 6 to p2 (session 0)", 6, x.week(2, 11, 0));
        due(18, "N ends with p2", 12, x.week(2, 11, 3));
        due(18, "P0 walks 4, fetched 4, put 4", 12, x.week(0, 11, 0));
        due(18, "P0 risks at 3, 4, 6, 7, 8, 9", 18, x.week(0, 11, 1));
        due(18, "P0 ends there", 0, x.week(0, 11, 3));
        due(18, "P1: p0 stands at 5, nobody else", 1, x.week(1, 11, 2));
        due(20, "P1: who", 4, x.outside(1, 11, 5));
        Texts.rule(x, 0, "P3");
        due(19, "no such place: home", 12, x.ahead(0, 11, 3));
        // A place shuts while the key lies there.
        BoathouseKey y = Texts.club("N2R011R144P012O013");
        Texts.rule(y, 0, "P0");
        due(18, "shut at 4: p1 stands", 1, y.week(0, 10, 2));
        due(18, "it lies there for ever", 0, y.week(0, 10, 3));
        due(18, "at risk from 2 on", 16, y.week(0, 10, 1));
        // Handed on round the week, and to the least session of those that begin.
        BoathouseKey z = Texts.club("N3R099R200R100");
        due(18, "handed to p2 at 9", 12, z.week(0, 10, 3));
        Texts.rule(z, 0, "P0");
        due(18, "no act is asked", 12, z.week(0, 10, 3));
        due(22, "for ever: p0 stands at 9", 0, z.never(0, 10));
        // Who comes next may be who goes: the way to its own home is walked as well.
        BoathouseKey w = Texts.club("N1R044H08");
        Texts.rule(w, 0, "N");
        due(18, "N to oneself", 8, w.week(0, 10, 0));
        due(18, "N to oneself", 10, w.week(0, 10, 3));
        BoathouseKey v = Texts.club("N2R100H15");
        Texts.rule(v, 0, "N");
        due(18, "N to oneself at hour 0", 5, v.week(0, 11, 0));
    }

    private static void bringing() {
        BoathouseKey x = pair();
        due(14, "to p1", 10, x.bring(11));
        due(14, "to place 0", 11, x.bring(0));
        due(14, "UNKNOWN place", -1, x.bring(1));
        due(14, "UNKNOWN person", -1, x.bring(12));
        due(14, "UNKNOWN inside", -1, x.bring(20));
        due(14, "UNKNOWN", -1, x.bring(9));
        due(14, "UNKNOWN", -1, x.bring(-1));
        due(14, "UNKNOWN", -1, x.bring(Integer.MIN_VALUE));
        due(13, "where", 0, x.where());
        due(15, "no walk", 0, x.live(3));
        x.hour(0);
        x.hour(0);
        due(14, "UNKNOWN ahead of LATE", -1, x.bring(1));
        due(14, "LATE", -3, x.bring(0));
    }

    private static void slots() {
        BoathouseKey x = pair();
        due(17, "LATE", -3, x.again(0));
        due(17, "UNKNOWN", -1, x.again(2));
        due(17, "UNKNOWN", -1, x.again(-1));
        due(16, "UNKNOWN", -1, x.keep(2));
        due(16, "UNKNOWN", -1, x.keep(-1));
        x.hour(0);
        x.hour(0);
        due(16, "keep", 1, x.keep(1));
        due(17, "the other slot", -3, x.again(0));
        x.hour(0);
        x.hour(0);
        x.own(1);
        x.tell(4, 2);
        due(16, "keep", 1, x.keep(0));
        due(17, "again", 2, x.again(1));
        due(13, "where", 20, x.where());
        due(15, "inside", 1, x.live(1));
        due(15, "walked", 0, x.live(3));
        due(15, "risk", 0, x.live(4));
        due(11, "own is not live", 1, x.own(0));
        due(23, "the row is not live", 2, x.tell(4, 99));
        due(17, "again", 4, x.again(0));
        due(15, "walked", 3, x.live(3));
        due(15, "risk", 2, x.live(4));
        due(16, "other was kept there", 0, x.keep(1));
        due(17, "it is kept now", 4, x.again(1));
        due(17, "and stays kept", 4, x.again(1));
        BoathouseKey y = Texts.club("N2R012R145");
        y.bring(11);
        y.hour(0);
        y.hour(0);
        y.keep(0);
        y.hour(0);
        due(15, "nobody outside", 0, y.live(2));
        due(15, "stood twice", 2, y.live(5));
        due(17, "again", 2, y.again(0));
        due(15, "p0 stands outside again", 1, y.live(2));
        due(15, "stood once", 1, y.live(5));
        due(13, "with p1", 11, y.where());
        BoathouseKey z = Texts.club("N2R012R145");
        z.keep(1);
        Texts.put(z, "N2R0");
        z.make();
        due(17, "no club, so it is kept still", 0, z.again(1));
    }

    private static void shiftAndAgain() {
        // Kept while session 0 is inside, which then is shifted: it goes when it ends now.
        BoathouseKey x = Texts.club("N2R012R145");
        x.hour(0);
        x.hour(0);
        x.keep(0);
        x.hour(0);
        due(35, "shift", 1, x.shift(0, 7));
        due(17, "again", 2, x.again(0));
        due(15, "inside", 1, x.live(1));
        for (int h = 2; h < 7; h++) x.hour(0);
        due(15, "inside still", 1, x.live(1));
        x.hour(0);
        due(15, "begins and is inside", 1, x.live(1));
        x.hour(0);
        due(15, "went at 8", 0, x.live(1));
        due(13, "p0 has the key", 10, x.where());
    }

    private static void weeks() {
        BoathouseKey x = pair();
        int[] from10 = {9, 10, 0, 0};
        int[] from0 = {12, 12, 0, 0};
        for (int i = 0; i < 4; i++) {
            due(18, "P0 from 10: " + i, from10[i], x.week(0, 10, i));
            due(18, "P0 from 0: " + i, from0[i], x.week(0, 0, i));
        }
        due(18, "N walks", 4, x.week(2, 10, 0));
        due(18, "N ends", 10, x.week(2, 10, 3));
        due(18, "H stands", 2, x.week(1, 10, 2));
        due(18, "UNKNOWN", -1, x.week(3, 10, 0));
        due(18, "UNKNOWN", -1, x.week(0, 1, 9));
        due(18, "BAD", -2, x.week(0, 10, 4));
        due(18, "BAD", -2, x.week(0, 10, -1));
        int[] ahead = {10, 10, 20, 0, 0, 20, 0, 0, 0, 0};
        for (int h = 0; h < 10; h++) due(19, "ahead of " + h, ahead[h], x.ahead(0, 10, h));
        due(19, "UNKNOWN", -1, x.ahead(0, 10, 10));
        due(19, "UNKNOWN", -1, x.ahead(0, 10, -1));
        due(19, "UNKNOWN", -1, x.ahead(-1, 10, 0));
        due(19, "UNKNOWN", -1, x.ahead(0, 20, 0));
        for (int h = 0; h < 10; h++) {
            due(20, "outside at " + h, h == 4 || h == 5 ? 2 : 0, x.outside(1, 10, h));
            due(20, "outside at " + h, h == 1 || h == 2 ? 1 : 0, x.outside(1, 11, h));
        }
        due(20, "UNKNOWN", -1, x.outside(0, 10, 10));
        due(20, "UNKNOWN", -1, x.outside(0, 10, -1));
        due(20, "UNKNOWN", -1, x.outside(3, 10, 0));
        due(20, "UNKNOWN", -1, x.outside(0, 3, 0));
        due(15, "live stays", 0, x.live(0));
        due(13, "live stays", 10, x.where());
    }

    private static void rings() {
        BoathouseKey x = pair();
        int[] p0 = {1, 1, 12, 12, 0};
        for (int i = 0; i < 5; i++) due(21, "P0 from 10: " + i, p0[i], x.ever(0, 10, i));
        due(21, "P0 from 0", 0, x.ever(0, 0, 0));
        due(21, "N from 10", 0, x.ever(2, 10, 0));
        due(21, "N from 11: p0 stands, then p1 hands on", 1, x.ever(2, 11, 0));
        due(21, "N's ring walks", 4, x.ever(2, 11, 2));
        due(21, "nobody stands in the ring", 0, x.ever(2, 11, 4));
        due(22, "but ahead of it", 0, x.never(2, 11));
        due(22, "never", 1, x.never(2, 10));
        due(22, "never", 1, x.never(0, 10));
        due(22, "never", 0, x.never(1, 10));
        due(21, "UNKNOWN", -1, x.ever(3, 10, 9));
        due(21, "UNKNOWN", -1, x.ever(0, 12, 0));
        due(21, "BAD", -2, x.ever(0, 10, 5));
        due(21, "BAD", -2, x.ever(0, 10, -1));
        due(22, "UNKNOWN", -1, x.never(3, 10));
        due(22, "UNKNOWN", -1, x.never(0, 1));
        // 11 to 13 and back: at 9 p2 opens, but p1 of session 0 is the last.
        BoathouseKey y = Texts.club("N4R199R299R166R233R322R377");
        due(18, "a week from 11", 13, y.week(0, 11, 3));
        due(18, "a week from 11 stands", 4, y.week(0, 11, 2));
        due(18, "a week from 13", 11, y.week(0, 13, 3));
        due(18, "a week from 13 stands", 2, y.week(0, 13, 2));
        due(21, "LEAD", 0, y.ever(0, 11, 0));
        due(21, "LONG", 2, y.ever(0, 11, 1));
        due(21, "STOOD together", 6, y.ever(0, 11, 4));
        due(21, "LONG", 2, y.ever(0, 13, 1));
        due(21, "LEAD from 12", 1, y.ever(0, 12, 0));
        due(21, "LONG from 12", 2, y.ever(0, 12, 1));
    }

    private static void theRow() {
        BoathouseKey x = pair();
        due(24, "nothing told", -9, x.judge(0, 10));
        due(23, "tell", 99, x.tell(2, 20));
        due(23, "tell", 99, x.tell(9, 0));
        due(24, "all as told", -9, x.judge(0, 10));
        due(24, "N differs at 9", 9, x.judge(2, 10));
        due(23, "tell", 20, x.tell(2, 15));
        due(24, "differs at 2", 2, x.judge(0, 10));
        due(23, "tell", 15, x.tell(2, 99));
        due(24, "not told any more", -9, x.judge(0, 10));
        due(23, "ahead of hour 0", 99, x.tell(0, 3));
        due(24, "differs at 0", 0, x.judge(0, 10));
        due(23, "UNKNOWN", -1, x.tell(10, 0));
        due(23, "UNKNOWN ahead of BAD", -1, x.tell(-1, 4));
        int[] bad = {-1, 4, 9, 16, 19, 21, 98, 100, -9};
        for (int w : bad) due(23, "BAD " + w, -2, x.tell(0, w));
        due(23, "nothing changed", 3, x.tell(0, 99));
        due(24, "UNKNOWN", -1, x.judge(3, 10));
        due(24, "UNKNOWN", -1, x.judge(0, 20));
    }

    private static void bestWays() {
        BoathouseKey x = pair();
        due(25, "find", 4, x.find(1, 0));
        due(26, "from", 10, x.from(1, 0));
        due(27, "N at 2", 5, x.way(1, 0, 2));
        due(27, "N at 5", 5, x.way(1, 0, 5));
        due(27, "none at 1", 0, x.way(1, 0, 1));
        due(27, "none at 9", 0, x.way(1, 0, 9));
        due(25, "find 9", 36, x.find(9, 9));
        due(25, "no price", 0, x.find(0, 0));
        due(26, "the least begin", 0, x.from(0, 0));
        due(27, "the least act", 0, x.way(0, 0, 2));
        due(27, "the least act", 0, x.way(0, 0, 5));
        due(25, "risk alone", 0, x.find(0, 1));
        due(26, "risk alone", 10, x.from(0, 1));
        due(27, "risk alone", 5, x.way(0, 1, 2));
        due(28, "bar", 10, x.bar());
        due(25, "BAD", -2, x.find(-1, 0));
        due(25, "BAD", -2, x.find(0, 10));
        due(26, "BAD", -2, x.from(10, 0));
        due(26, "BAD", -2, x.from(0, -1));
        due(27, "BAD", -2, x.way(0, 10, 0));
        due(27, "BAD ahead of UNKNOWN", -2, x.way(10, 0, 10));
        due(27, "UNKNOWN", -1, x.way(0, 0, 10));
        due(27, "UNKNOWN", -1, x.way(0, 0, -1));
        // An act at a place that is not there is one that takes the key home: 0 is less than 4.
        BoathouseKey y = Texts.club("N2R012R055");
        due(25, "home", 0, y.find(9, 9));
        due(27, "home by P0", 0, y.way(9, 9, 2));
        BoathouseKey z = Texts.club("N2R012R055P011P111P211P311");
        due(27, "home by H, and not by N", 4, z.way(9, 9, 2));
        due(26, "from", 10, z.from(9, 9));
        // Where no sessions are, a place without risk is the least begin.
        BoathouseKey w = Texts.club("N1P291P190");
        due(25, "find", 0, w.find(9, 9));
        due(26, "from", 1, w.from(9, 9));
    }

    private static void bars() {
        // p1 has an own key, so the key that it is handed stays with it, and p0 stands at 3.
        BoathouseKey x = Texts.club("N2R000R111R033");
        due(28, "bar", 10, x.bar());
        x.own(2);
        due(25, "none", -9, x.find(1, 1));
        due(26, "none", -9, x.from(1, 1));
        due(27, "none", -9, x.way(1, 1, 0));
        due(27, "UNKNOWN all the same", -1, x.way(1, 1, 10));
        due(28, "bar", 3, x.bar());
        // The key ends with p1, and a week from there is barred at 0; but one week goes by.
        BoathouseKey y = Texts.club("N2R000R111");
        y.own(2);
        due(25, "none", -9, y.find(1, 1));
        due(28, "none such", 10, y.bar());
        // p1 would keep what N gives it: p2 comes in only by a place.
        BoathouseKey z = Texts.club("N3R000R122R244");
        z.own(2);
        due(28, "bar", 4, z.bar());
        BoathouseKey w = Texts.club("N3R000R122R244P000");
        w.own(2);
        due(28, "by place 0", 10, w.bar());
        due(25, "by place 0", 0, w.find(1, 1));
        due(26, "by place 0", 0, w.from(1, 1));
        w.own(0);
        due(27, "by place 0", 0, w.way(1, 1, 4));
    }

    private static void shortRules() {
        BoathouseKey x = pair();
        due(29, "N", 5, x.brief(10, 1, 1));
        due(30, "N", 4, x.briefPrice(10, 1, 1, true));
        due(30, "N", 1, x.briefPrice(10, 1, 1, false));
        due(29, "no price: P0", 0, x.brief(10, 0, 0));
        due(30, "no price", 0, x.briefPrice(10, 0, 0, true));
        due(30, "no price", 1, x.briefPrice(10, 0, 0, false));
        due(29, "none from 11", -9, x.brief(11, 1, 1));
        due(30, "none from 11", -9, x.briefPrice(11, 1, 1, true));
        due(30, "none from 11", -9, x.briefPrice(11, 1, 1, false));
        due(29, "UNKNOWN", -1, x.brief(1, 10, 0));
        due(29, "BAD", -2, x.brief(10, 10, 0));
        due(29, "BAD", -2, x.brief(10, 0, -1));
        due(30, "UNKNOWN", -1, x.briefPrice(20, 10, 0, true));
        due(30, "BAD", -2, x.briefPrice(10, -1, 0, true));
        due(30, "BAD", -2, x.briefPrice(10, 0, 10, true));
        // p1's home is far: at 2 the key is laid at place 0, else N: 6 + 36 * 2 + 6 * 0 + 5.
        BoathouseKey y = Texts.club("N2R012R145P010H19");
        due(29, "2 P0, else N", 83, y.brief(10, 9, 0));
        due(30, "walks 1 and 1", 18, y.briefPrice(10, 9, 0, true));
        due(31, "put", 1, y.put(2, 83));
        due(21, "it does", 2, y.ever(2, 10, 2));
    }

    private static void fewestKeys() {
        BoathouseKey x = pair();
        due(32, "P0", 0, x.keys(0, 10));
        due(32, "H from 10", 2, x.keys(1, 10));
        due(32, "H from 11", 1, x.keys(1, 11));
        due(32, "H from 0: p1 fetches it, if p0 does not", 1, x.keys(1, 0));
        x.own(3);
        due(32, "whoever has one now", 2, x.keys(1, 10));
        due(11, "own stays", 3, x.own(0));
        due(32, "UNKNOWN", -1, x.keys(3, 10));
        due(32, "UNKNOWN", -1, x.keys(0, 12));
        BoathouseKey y = Texts.club("N4R000R122R244R366");
        due(32, "all but one", 14, y.keys(0, 10));
        due(32, "all but one", 13, y.keys(0, 11));
        due(32, "all but one", 7, y.keys(0, 13));
    }

    private static void moving() {
        BoathouseKey x = pair();
        Texts.rule(x, 1, "5NH");
        due(33, "not needed", 100, x.move(0, 10));
        due(33, "session 0 by 1", 3, x.move(1, 10));
        due(8, "nothing moved", 1, x.session(0, 1));
        due(8, "nothing moved", 2, x.session(0, 2));
        due(22, "nothing moved", 0, x.never(1, 10));
        Texts.rule(x, 1, "4NH");
        due(33, "session 1 by less 1", 11, x.move(1, 10));
        Texts.rule(x, 1, "H");
        due(33, "none", -9, x.move(1, 10));
        x.own(2);
        due(33, "not needed with own keys", 100, x.move(1, 10));
        due(33, "UNKNOWN", -1, x.move(3, 10));
        due(33, "UNKNOWN", -1, x.move(0, 13));
        // Three hours apart: less than two do not help.
        BoathouseKey z = Texts.club("N2R011R144");
        Texts.rule(z, 0, "4NH");
        due(33, "session 0 by 2", 4, z.move(0, 10));
        Texts.rule(z, 0, "2NH");
        due(33, "session 1 by less 2", 10, z.move(0, 10));
    }

    private static void fitting() {
        BoathouseKey x = Texts.club("N2R012R055R134");
        int[] fits = {1, 1, 1, 1, 0, 0, 1, 1, 1, 0};
        for (int h = 0; h < 10; h++) {
            due(34, "session 0 at " + h, h == 4 || h == 5 || h == 9 ? 0 : fits[h], x.fits(0, h));
            due(34, "session 1 at " + h, h == 1 || h == 2 ? 0 : 1, x.fits(1, h));
            due(34, "session 2 at " + h, h == 9 ? 0 : 1, x.fits(2, h));
        }
        due(34, "UNKNOWN", -1, x.fits(3, 0));
        due(34, "UNKNOWN", -1, x.fits(-1, 0));
        due(34, "UNKNOWN", -1, x.fits(0, 10));
        due(34, "UNKNOWN", -1, x.fits(0, -1));
        due(35, "BAD", -2, x.shift(0, 4));
        due(35, "BAD", -2, x.shift(0, 9));
        due(35, "UNKNOWN", -1, x.shift(0, 10));
        due(35, "UNKNOWN", -1, x.shift(3, 0));
        due(35, "shift", 1, x.shift(0, 6));
        due(8, "first", 6, x.session(0, 1));
        due(8, "last", 7, x.session(0, 2));
        due(34, "session 1 at 1 now", 1, x.fits(1, 1));
        due(35, "to where it is", 6, x.shift(0, 6));
        x.hour(0);
        x.hour(0);
        x.hour(0);
        x.hour(0);
        due(15, "p1 stands at 3", 4, x.live(2));
        due(35, "BAD ahead of LATE", -2, x.shift(0, 4));
        due(35, "LATE: outside", -3, x.shift(0, 7));
        x.hour(0);
        due(35, "nobody any more", 6, x.shift(0, 7));
        x.shift(0, 6);
        x.hour(0);
        x.hour(0);
        due(15, "p0 is inside", 1, x.live(1));
        due(35, "LATE: inside", -3, x.shift(0, 7));
        due(8, "nothing changed", 6, x.session(0, 1));
    }

    private static void fraction(int promise, String what, long above, long below, long gotAbove, long gotBelow) {
        due(promise, what + ", above", above, gotAbove);
        due(promise, what + ", below", below, gotBelow);
    }

    private static void chanceIs(BoathouseKey x, int hour, int where, long above, long below) {
        fraction(38, "chance at " + hour + " of " + where, above, below,
            x.chance(0, 10, hour, where, true), x.chance(0, 10, hour, where, false));
    }

    private static void forgetting() {
        BoathouseKey x = pair();
        fraction(36, "half of 2 hours", 1, 1, x.mean(0, 10, true), x.mean(0, 10, false));
        fraction(37, "half", 1, 2, x.dry(0, 10, true), x.dry(0, 10, false));
        chanceIs(x, 0, 10, 1, 1);
        chanceIs(x, 2, 20, 1, 1);
        chanceIs(x, 3, 0, 1, 2);
        chanceIs(x, 3, 10, 1, 2);
        chanceIs(x, 3, 11, 0, 1);
        chanceIs(x, 5, 20, 1, 2);
        chanceIs(x, 9, 0, 1, 4);
        chanceIs(x, 9, 10, 1, 2);
        chanceIs(x, 9, 11, 1, 4);
        chanceIs(x, 9, 3, 0, 1);
        chanceIs(x, 9, 15, 0, 1);
        fraction(36, "H is not forgotten", 2, 1, x.mean(1, 10, true), x.mean(1, 10, false));
        fraction(37, "H", 0, 1, x.dry(1, 10, true), x.dry(1, 10, false));
        fraction(36, "N is", 1, 1, x.mean(2, 10, true), x.mean(2, 10, false));
        due(12, "live forgets nothing", 0, x.hour(0) + x.hour(0) + x.hour(0) + x.hour(0) + x.hour(0));
        // Shut at 2: home for certain. What is handed on is not forgotten.
        BoathouseKey y = Texts.club("N2R012R133R077P000O039F9");
        Texts.rule(y, 0, "P0");
        chanceIs(y, 3, 11, 1, 1);
        chanceIs(y, 4, 0, 1, 10);
        chanceIs(y, 4, 11, 9, 10);
        fraction(36, "p0 stands at 7", 9, 10, y.mean(0, 10, true), y.mean(0, 10, false));
        chanceIs(y, 8, 0, 1, 100);
        chanceIs(y, 8, 10, 9, 100);
        y.own(2);
        fraction(36, "p1 opens with its own key and keeps the key", 1, 1, y.mean(0, 10, true), y.mean(0, 10, false));
        y.own(3);
        fraction(37, "own keys hold here too", 1, 1, y.dry(0, 10, true), y.dry(0, 10, false));
        BoathouseKey s = Texts.club("N2R012R144P000O039F9");
        Texts.rule(s, 0, "2P0H");
        fraction(36, "a shut place: home, so p1 stands", 1, 1, s.mean(0, 10, true), s.mean(0, 10, false));
        // Five acts, the most there are; who forgets leaves all others outside.
        BoathouseKey z = Texts.club("N6R011R133R255R377R499P000F3");
        Texts.rule(z, 0, "P0");
        fraction(37, "four of four", 2401, 10000, z.dry(0, 10, true), z.dry(0, 10, false));
        chanceIs(z, 9, 0, 2401, 10000);
        // One forgets at 1, 3, 5, 7: then 4, 3, 2, 1 stand.
        fraction(36, "mean", 3 * 4000 + 21 * 300 + 147 * 20 + 1029, 10000,
            z.mean(0, 10, true), z.mean(0, 10, false));
        due(36, "UNKNOWN", -1, x.mean(3, 10, true));
        due(36, "UNKNOWN", -1, x.mean(0, 12, true));
        due(37, "UNKNOWN", -1, x.dry(-1, 10, true));
        due(37, "UNKNOWN", -1, x.dry(0, 2, true));
        due(38, "UNKNOWN", -1, x.chance(0, 10, 10, 4, true));
        due(38, "UNKNOWN", -1, x.chance(3, 10, 0, 0, true));
        due(38, "UNKNOWN", -1, x.chance(0, 9, 0, 0, true));
        int[] bad = {-1, 4, 9, 16, 19, 21, 99};
        for (int w : bad) due(38, "BAD " + w, -2, x.chance(0, 10, 0, w, true));
    }

    private static void looking() {
        BoathouseKey x = pair();
        due(39, "place 0", 0, x.look(0, 10, 3, 0));
        due(39, "no other", -9, x.look(0, 10, 3, 1));
        due(39, "less than 0", -9, x.look(0, 10, 3, -1));
        due(39, "far", -9, x.look(0, 10, 3, Integer.MAX_VALUE));
        due(39, "with p0 still", -9, x.look(0, 10, 1, 0));
        due(39, "inside", -9, x.look(0, 10, 2, 0));
        due(39, "N lays it nowhere", -9, x.look(2, 10, 3, 0));
        due(39, "UNKNOWN", -1, x.look(3, 10, 0, 0));
        due(39, "UNKNOWN", -1, x.look(0, 3, 0, 0));
        due(39, "UNKNOWN", -1, x.look(0, 10, 10, 0));
        due(39, "UNKNOWN", -1, x.look(0, 10, -1, 0));
        // At 1 it is laid at place 3 (8 of 10), which shuts at 3; else p0 opens at 3 and lays it at place 1.
        BoathouseKey y = Texts.club("N2R011R033P110P341O312F2");
        Texts.rule(y, 0, "1P33P1H");
        due(39, "at 2", 3, y.look(0, 10, 2, 0));
        due(39, "at 2, no other", -9, y.look(0, 10, 2, 1));
        due(39, "at 3, shut", -9, y.look(0, 10, 3, 0));
        due(39, "at 4, the open one", 1, y.look(0, 10, 4, 0));
        due(39, "at 4, not the shut one", -9, y.look(0, 10, 4, 1));
        chanceIs(y, 4, 1, 4, 25);
        chanceIs(y, 4, 3, 4, 5);
        chanceIs(y, 4, 10, 1, 25);
    }

    private static void refusalsInOrder() {
        BoathouseKey x = pair();
        due(8, "UNKNOWN ahead of BAD", -1, x.session(9, 9));
        due(18, "UNKNOWN ahead of BAD", -1, x.week(9, 10, 9));
        due(21, "UNKNOWN ahead of BAD", -1, x.ever(0, 9, 9));
        due(38, "UNKNOWN ahead of BAD", -1, x.chance(0, 10, -1, 99, true));
        due(29, "UNKNOWN ahead of BAD", -1, x.brief(-1, 99, 0));
        due(30, "UNKNOWN ahead of BAD", -1, x.briefPrice(-1, 99, 0, false));
        due(6, "a constant", -1, BoathouseKey.UNKNOWN);
        due(6, "a constant", -2, BoathouseKey.BAD);
        due(6, "a constant", -3, BoathouseKey.LATE);
        due(6, "a constant", -4, BoathouseKey.FULL);
        due(6, "a constant", -9, BoathouseKey.NONE);
    }
}
