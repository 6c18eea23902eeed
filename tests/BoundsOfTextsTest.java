/** The bounds that passage 1 names, and promises 1 to 11, 31 and 40: on each side of each. */
public final class BoundsOfTextsTest {
    private static final Due due = new Due();
    private static final String FIGURES = "0123456789";

    public static void main(String[] args) {
        atFirst();
        bytes();
        wiping();
        people();
        sessions();
        sessionsOfOne();
        sessionsFull();
        places();
        opening();
        homes();
        forgetting();
        notAtItsEnd();
        lengthSetAside();
        rules();
        readAnew();
        exceptions();
        shortRules();
        making();
        madeOverAndOver();
        owning();
        due.end();
    }

    private static int faultOf(String text, boolean rule) {
        BoathouseKey x = new BoathouseKey();
        Texts.put(x, text);
        return x.fault(rule);
    }

    private static void fault(String text, int want) {
        due.is("fault of the club " + text, want, faultOf(text, false));
        BoathouseKey x = new BoathouseKey();
        Texts.put(x, text);
        due.is("make of " + text, want == -9 ? text.charAt(1) - '0' : -3, x.make());
    }

    /** Of all 256 bytes just these can stand behind a text that is none yet or is one. */
    private static void follows(boolean rule, String text, String signs) {
        StringBuilder can = new StringBuilder();
        StringBuilder want = new StringBuilder();
        for (char c = 0; c < 256; c++) {
            if (faultOf(text + c, rule) != text.length()) can.append(c);
            if (signs.indexOf(c) >= 0) want.append(c);
        }
        due.same("what follows " + text, want.toString(), can.toString());
    }

    private static void club(String text, String signs) {
        follows(false, text, signs);
    }

    private static void rule(String text, String signs) {
        follows(true, text, signs);
    }

    private static void atFirst() {
        due.asks("At first THE CLUB is N1, RULES 0 .. 2 are H.");
        BoathouseKey x = new BoathouseKey();
        for (int what = 0; what < 5; what++) due.is("count " + what, what == 0 ? 1 : 0, x.count(what));
        due.is("home(0)", 0, x.home(0));
        due.is("home(1)", -1, x.home(1));
        due.is("session(0, 0)", -1, x.session(0, 0));
        for (int p = 0; p < 4; p++) due.is("place " + p, -1, x.place(p, 0));
        for (int r = 0; r < 3; r++) for (int h = 0; h < 10; h++) due.is("ruled", 4, x.ruled(r, h));
        due.asks("FAULT: its length, if it is only not at its end");
        due.is("the empty text is no club", 0, x.fault(false));
        due.is("the empty text is no rule", 0, x.fault(true));
        due.is("make", -3, x.make());
        due.is("rule", -3, x.rule(0));
    }

    private static BoathouseKey withText(int length) {
        BoathouseKey x = new BoathouseKey();
        for (int i = 0; i < length; i++) x.write(1, 'N');
        return x;
    }

    private static void bytes() {
        due.asks("THE TEXT is bytes (64 at most). FULL: it would be longer than 64 (nothing comes).");
        for (int length = 0; length <= 64; length++) {
            for (int n = 1; n <= 8; n++) {
                BoathouseKey x = withText(length);
                int want = length + n <= 64 ? length + n : -4;
                due.is("write " + n + " behind " + length, want, x.write(n, 0));
                due.is("bytes then", want < 0 ? length : want, x.count(4));
            }
        }
        due.asks("n bytes (1 .. 8)");
        int[] none = {0, 9, -1, 16, Integer.MIN_VALUE, Integer.MAX_VALUE};
        for (int n : none) {
            BoathouseKey x = withText(3);
            due.is("write " + n, -2, x.write(n, 0x4e31));
            due.is("bytes then", 3, x.count(4));
            BoathouseKey full = withText(64);
            due.is("BAD is told ahead of FULL", -2, full.write(n, 0));
            due.is("bytes then", 64, full.count(4));
        }
        due.asks("the lowest n, the highest of these first");
        for (int n = 1; n <= 8; n++) byPieces("N6R509F9", n);
        BoathouseKey x = new BoathouseKey();
        due.is("a byte of 255", 1, x.write(1, -1L));
        due.is("is no N", 0, x.fault(false));
        BoathouseKey y = new BoathouseKey();
        y.write(2, 0xceb1);
        due.is("N and 1 with the high bit are no club", 0, y.fault(false));
    }

    /** The bytes of v above those that are told would spoil the text. */
    private static void byPieces(String text, int n) {
        BoathouseKey x = new BoathouseKey();
        for (int i = 0; i < text.length(); i += n) {
            String part = text.substring(i, Math.min(i + n, text.length()));
            long above = part.length() == 8 ? 0 : -1L << 8 * part.length();
            x.write(part.length(), Texts.packed(part) | above);
        }
        due.is("bytes", text.length(), x.count(4));
        due.is("fault by pieces of " + n, -9, x.fault(false));
        due.is("make", 6, x.make());
        due.is("person", 5, x.session(0, 0));
        due.is("first", 0, x.session(0, 1));
        due.is("last", 9, x.session(0, 2));
        due.is("tenths", 9, x.count(3));
    }

    private static void wiping() {
        due.asks("THE TEXT is empty: how long it was.");
        int[] lengths = {0, 1, 63, 64};
        for (int length : lengths) {
            BoathouseKey x = withText(length);
            due.is("wipe", length, x.wipe());
            due.is("bytes", 0, x.count(4));
            due.is("fault", 0, x.fault(false));
            due.is("wipe again", 0, x.wipe());
            due.is("room for 8", 8, x.write(8, Texts.packed("N2R109F3")));
            due.is("only what came behind the wipe", -9, x.fault(false));
        }
    }

    private static void people() {
        due.asks("Nk: the first PART: it must stand, and once alone");
        club("", "N");
        due.asks("Nk: PEOPLE 0 .. k - 1 (k 1 .. 6)");
        club("N", "123456");
        due.asks("Nk: once alone");
        for (int k = 1; k <= 6; k++) {
            club("N" + k, "RPHF");
            fault("N" + k, -9);
            fault("N" + k + "N" + k, 2);
        }
        club("N1R000P000O000", "RPHF");
        due.asks("PEOPLE 0 .. k - 1");
        for (int k = 1; k <= 6; k++) {
            BoathouseKey x = Texts.club("N" + k);
            due.is("people", k, x.count(0));
            due.is("the last one's home", 0, x.home(k - 1));
            due.is("no more", -1, x.home(k));
            due.is("none below", -1, x.home(-1));
            club("N" + k + "R", FIGURES.substring(0, k));
            club("N" + k + "H", FIGURES.substring(0, k));
        }
    }

    private static void sessions() {
        due.asks("Rise: from HOUR s to HOUR e (0 .. 9, e no less)");
        club("N1R0", FIGURES);
        for (int s = 0; s <= 9; s++) {
            club("N1R0" + s, FIGURES.substring(s));
            for (int e = s; e <= 9; e++) {
                BoathouseKey x = Texts.club("N3R2" + s + e);
                due.is("person", 2, x.session(0, 0));
                due.is("first", s, x.session(0, 1));
                due.is("last", e, x.session(0, 2));
            }
        }
    }

    private static void sessionsOfOne() {
        due.asks("no two of one PERSON have an HOUR together");
        for (int s = 0; s <= 9; s++) {
            for (int e = s; e <= 9; e++) {
                for (int t = 0; t <= 9; t++) {
                    for (int f = 0; f <= 9; f++) secondSession(s, e, t, f);
                }
            }
        }
        club("N2R009R", "1");
        club("N2R009R109", "PHF");
        club("N2R008R109R", "0");
        club("N2R008R109R0", "9");
        club("N1R044R00", "0123");
        club("N1R044R0", "012356789");
        club("N1R044R022R00", "01");
        club("N1R022R044R03", "3");
        club("N1R044R022R0", "01356789");
        club("N1R044R022R03", "3");
        club("N1R044R022R066R0", "0135789");
    }

    private static void secondSession(int s, int e, int t, int f) {
        String one = "N2R0" + s + e;
        boolean whole = s == 0 && e == 9;
        boolean inside = s <= t && t <= e;
        boolean over = f < t || t < s && s <= f;
        int want = whole ? 7 : inside ? 8 : over ? 9 : -9;
        fault(one + "R0" + t + f, want);
        fault(one + "R1" + t + f, f < t ? 9 : -9);
    }

    private static void sessionsFull() {
        due.asks("a SESSION (8 at most, numbered as they are told)");
        StringBuilder text = new StringBuilder("N6");
        for (int n = 1; n <= 8; n++) {
            int hour = 8 - n;
            text.append("R").append(n % 6).append(hour).append(hour + 1 + n % 2);
            BoathouseKey x = Texts.club(text.toString());
            due.is("sessions", n, x.count(1));
            due.is("the last told is the last", hour, x.session(n - 1, 1));
            due.is("its person", n % 6, x.session(n - 1, 0));
            due.is("its end", hour + 1 + n % 2, x.session(n - 1, 2));
            due.is("no more", -1, x.session(n, 0));
            due.is("the first told is the first", 7, x.session(0, 1));
            club(text.toString(), n < 8 ? "RPHF" : "PHF");
        }
        club(text + "P000", "POHF");
    }

    private static void places() {
        due.asks("PLACE p (0 .. 3); of a p once");
        club("N1P", "0123");
        club("N1P000P", "123");
        club("N1P200P", "013");
        club("N1P300P000P", "12");
        club("N1P300P000P100P", "2");
        club("N1P300P000P100P200", "ROHF");
        due.asks("m minutes from the door, and each hour there is a risk of r");
        club("N1P3", FIGURES);
        club("N1P30", FIGURES);
        for (int m = 0; m <= 9; m++) {
            for (int r = 0; r <= 9; r++) {
                BoathouseKey x = Texts.club("N1P3" + m + r);
                due.is("minutes", m, x.place(3, 0));
                due.is("risk", r, x.place(3, 1));
            }
        }
        due.asks("place: UNKNOWN: also if THE CLUB does not have it");
        for (int has = 0; has < 16; has++) {
            StringBuilder text = new StringBuilder("N1");
            for (int p = 3; p >= 0; p--) if ((has >> p & 1) != 0) text.append("P").append(p).append(p).append("5");
            BoathouseKey x = Texts.club(text.toString());
            for (int p = 0; p < 4; p++) due.is("place " + p, (has >> p & 1) != 0 ? p : -1, x.place(p, 0));
            due.is("places", Integer.bitCount(has), x.count(2));
            due.is("place 4", -1, x.place(4, 0));
            due.is("place -1", -1, x.place(-1, 0));
        }
    }

    private static void opening() {
        due.asks("Opse: PLACE p, told ahead");
        club("N1", "RPHF");
        club("N1P211", "RPOHF");
        club("N1P211O", "2");
        club("N1P211P311O", "23");
        fault("N1P011O155P111", 7);
        due.asks("Opse: of a p once");
        club("N1P211O209", "RPHF");
        club("N1P211O209P011", "RPOHF");
        club("N1P211O209P011O", "0");
        club("N1P011P111O009O109", "RPHF");
        club("N1P011P111P211O009O109O", "2");
        due.asks("from HOUR s to HOUR e alone (e no less; else always)");
        club("N1P211O2", FIGURES);
        for (int s = 0; s <= 9; s++) {
            club("N1P211O2" + s, FIGURES.substring(s));
            for (int e = s; e <= 9; e++) {
                BoathouseKey x = Texts.club("N1P200P100O2" + s + e);
                due.is("first", s, x.place(2, 2));
                due.is("last", e, x.place(2, 3));
                due.is("the other is open always: first", 0, x.place(1, 2));
                due.is("the other is open always: last", 9, x.place(1, 3));
            }
        }
    }

    private static void homes() {
        due.asks("Him: the home of PERSON i is m minutes from the door (else 0); of an i once");
        club("N3H1", FIGURES);
        club("N3H14H", "02");
        club("N3H14H04H", "2");
        club("N3H14H04H20", "RPF");
        club("N1H00", "RPF");
        club("N6H00H10H20H30H40H", "5");
        for (int m = 0; m <= 9; m++) {
            BoathouseKey x = Texts.club("N3H1" + m);
            due.is("told", m, x.home(1));
            due.is("else 0", 0, x.home(0));
            due.is("else 0", 0, x.home(2));
            due.is("there is none", -1, x.home(3));
        }
    }

    private static void forgetting() {
        due.asks("Ff: one FORGETS in f tenths (1 .. 9; else 0); once");
        club("N1F", "123456789");
        for (int f = 1; f <= 9; f++) {
            club("N1F" + f, "RPH");
            due.is("tenths", f, Texts.club("N1F" + f).count(3));
            due.is("tenths", f, Texts.club("N1R000F" + f + "P000").count(3));
        }
        due.is("else 0", 0, Texts.club("N1R000P000").count(3));
    }

    private static void notAtItsEnd() {
        due.asks("FAULT: its length, if it is only not at its end; NONE: none");
        String text = "N6R000R101R202R303R404R505P000P111P222P333O001O112O223O334H01H12";
        String ends = "";
        for (int i = 2; i <= 64; i += i < 58 ? 4 : 3) ends += i + " ";
        for (int i = 0; i <= 64; i++) {
            boolean end = (" " + ends).contains(" " + i + " ");
            due.is("fault of " + i + " bytes", end ? -9 : i, faultOf(text.substring(0, i), false));
        }
        String rule = "0P01P12P23P34H5H6N7N8N9HN";
        for (int i = 0; i < rule.length(); i++) due.is("fault of " + i, i, faultOf(rule.substring(0, i), true));
        due.is("fault of all", -9, faultOf(rule, true));
        due.asks("the place of the first byte by which THE TEXT can be none, whatever came behind it");
        for (int i = 0; i < 63; i++) {
            due.is("a strange byte", i, faultOf(text.substring(0, i) + "x" + text.substring(i + 1), false));
            due.is("two strange bytes", i, faultOf(text.substring(0, i) + "xx" + text.substring(i + 2), false));
        }
        for (int i = 0; i < rule.length(); i++) {
            due.is("a strange byte", i, faultOf(rule.substring(0, i) + "x" + rule.substring(i + 1), true));
        }
    }

    private static void lengthSetAside() {
        due.asks("FAULT: (its length set aside)");
        String text = "N6R000R101R202R303R404R505P000P111P222P333O001O112O223O334F9";
        due.is("60 bytes", 60, text.length());
        fault(text + "H01H", 64);
        fault(text + "H012", 63);
        fault(text + "H01F", 63);
        fault(text + "R01P", 63);
        fault(text + "R011", -9);
        fault(text.substring(0, 59) + "9R01", 63);
        fault(text.substring(0, 58) + "H0H1H2", 60);
        BoathouseKey x = new BoathouseKey();
        Texts.put(x, text + "R01");
        due.is("not at its end", 63, x.fault(false));
        due.is("there is room for just one", 64, x.write(1, '1'));
        due.is("and so it is a club", -9, x.fault(false));
        due.is("made", 6, x.make());
        due.is("with its last session", 1, x.session(6, 2));
    }

    private static void rules() {
        due.asks("ACTS: P and a PLACE 0 .. 3; H; N.");
        rule("", FIGURES + "PHN");
        rule("P", "0123");
        rule("5P", "0123");
        due.asks("A RULE: then one ACT");
        rule("H", "");
        rule("N", "");
        rule("P3", "");
        rule("5HN", "");
        due.asks("EXCEPTIONS (an HOUR and an ACT; no HOUR twice)");
        rule("5", "PHN");
        rule("5H", "012346789PHN");
        rule("5P0", "012346789PHN");
        rule("5N0P1", "12346789PHN");
        rule("0H1H2H3H4H5H6H7H8H", "9PHN");
        rule("0H1H2H3H4H5H6H7H8H9H", "PHN");
        rule("0H1H2H3H4H5H6H7H8H9HN", "");
    }

    /** Of a text that was read before nothing stays, wherever it broke off. */
    private static void readAnew() {
        due.asks("fault: FAULT of a CLUB (rule = false), of a RULE; NONE.");
        String[] before = {"", "P", "5", "5P", "5H", "5P2", "H", "HH", "N", "N4", "N4R", "N4R1", "N4R13", "N4R134", "N4P", "N4P1",
            "N4P111O", "N4P111O1", "N4P111O155", "N4H", "N4H22", "N4F", "N4F5", "N4F5R009R1", "x"};
        for (String text : before) {
            BoathouseKey x = new BoathouseKey();
            Texts.put(x, text);
            x.fault(true);
            x.fault(false);
            Texts.put(x, "5P2H");
            due.is("a rule behind " + text, -9, x.fault(true));
            due.is("a rule behind " + text, 1, x.rule(0));
            due.is("its exception", 2, x.ruled(0, 5));
            due.is("else", 4, x.ruled(0, 2));
            Texts.put(x, "N2R009R134P100O155H22");
            due.is("person 2 is none", 19, x.fault(false));
            Texts.put(x, "N2R009R134P100O155H12F5");
            due.is("a club behind " + text, -9, x.fault(false));
            due.is("make", 2, x.make());
        }
    }

    private static void exceptions() {
        due.asks("rule: THE TEXT is a RULE: how many EXCEPTIONS.");
        String acts = "HNHNHNHNHN";
        for (int many = 0; many <= 10; many++) {
            StringBuilder text = new StringBuilder();
            for (int i = 0; i < many; i++) text.append(9 - i).append(acts.charAt(i));
            BoathouseKey x = new BoathouseKey();
            Texts.put(x, text + "P2");
            for (int r = 0; r < 3; r++) due.is("rule " + r, many, x.rule(r));
            for (int h = 0; h < 10; h++) {
                int want = 9 - h >= many ? 2 : acts.charAt(9 - h) == 'H' ? 4 : 5;
                due.is("ruled at " + h, want, x.ruled(2, h));
            }
            due.is("the text stays", text.length() + 2, x.count(4));
        }
        due.asks("The ACT of a RULE at an HOUR (0 .. 3 P, 4 H, 5 N).");
        String[] all = {"P0", "P1", "P2", "P3", "H", "N"};
        for (int act = 0; act < 6; act++) {
            BoathouseKey x = new BoathouseKey();
            Texts.rule(x, 1, all[act]);
            for (int h = 0; h < 10; h++) {
                due.is("ruled", act, x.ruled(1, h));
                due.is("the others stay", 4, x.ruled(0, h));
                due.is("the others stay", 4, x.ruled(2, h));
            }
        }
    }

    private static void shortRules() {
        due.asks("A SHORT RULE: 0 .. 5 an ACT alone; 6 and 36 h and 6 x and y: EXCEPTION x at HOUR h, else y.");
        for (int y = 0; y < 6; y++) putIs(y, -1, 0, y);
        for (int h = 0; h < 10; h++) {
            for (int act = 0; act < 6; act++) {
                for (int y = 0; y < 6; y++) putIs(6 + 36 * h + 6 * act + y, h, act, y);
            }
        }
        due.asks("put: BAD: there is no such number (0 .. 365).");
        BoathouseKey x = new BoathouseKey();
        Texts.rule(x, 0, "3N7P2P1");
        int[] none = {-1, 366, 367, Integer.MIN_VALUE, Integer.MAX_VALUE};
        for (int number : none) due.is("put " + number, -2, x.put(0, number));
        for (int h = 0; h < 10; h++) due.is("nothing changed", h == 3 ? 5 : h == 7 ? 2 : 1, x.ruled(0, h));
    }

    private static void putIs(int number, int h, int act, int y) {
        BoathouseKey x = new BoathouseKey();
        Texts.rule(x, 2, "0P31P32P3N");
        due.is("put " + number, h < 0 ? 0 : 1, x.put(2, number));
        for (int i = 0; i < 10; i++) due.is("ruled of " + number, i == h ? act : y, x.ruled(2, i));
        due.is("the others stay", 4, x.ruled(1, 0));
        due.is("the text stays", 10, x.count(4));
    }

    private static void making() {
        due.asks("make: THE TEXT itself stays; OWN keys: none; RULES stay; what was kept is gone; LIVE, THE ROW as at first");
        BoathouseKey x = Texts.club("N3R002P012H25F7");
        Texts.rule(x, 1, "4P0N");
        x.own(6);
        x.tell(0, 3);
        x.tell(9, 20);
        x.keep(0);
        x.hour(1);
        x.keep(1);
        due.is("the key is inside", 20, x.where());
        Texts.put(x, "N3R001");
        due.is("make", 3, x.make());
        due.is("the text", 6, x.count(4));
        due.is("own", 0, x.own(7));
        for (int h = 0; h < 10; h++) due.is("ruled", h == 4 ? 0 : 5, x.ruled(1, h));
        due.is("slot 0", -3, x.again(0));
        due.is("slot 1", -3, x.again(1));
        due.is("keep in an empty slot", 1, x.keep(0));
        for (int what = 0; what < 6; what++) due.is("live " + what, 0, x.live(what));
        due.is("where", 10, x.where());
        for (int h = 0; h < 10; h++) due.is("the row", 99, x.tell(h, 20));
        due.is("place 0 is gone", -1, x.place(0, 0));
        due.is("homes are as told now", 0, x.home(2));
        due.is("nothing is forgotten", 0, x.count(3));
        due.is("the same text once more", 3, x.make());
        due.is("own", 0, x.own(0));
        due.is("slot 0", -3, x.again(0));
        due.is("the row", 99, x.tell(0, 0));
        BoathouseKey y = Texts.club("N2R100P014O055");
        Texts.put(y, "N1P0");
        due.is("make of what is none", -3, y.make());
        due.is("what was begun does not show", 4, y.place(0, 1));
        Texts.put(y, "N1P023");
        y.make();
        due.is("of the old hours nothing stays", 0, y.place(0, 2));
        due.is("of the old hours nothing stays", 9, y.place(0, 3));
        due.is("the first person has the key", 10, y.where());
    }

    private static void madeOverAndOver() {
        due.asks("make: THE TEXT is THE CLUB (of what was THE CLUB nothing stays)");
        BoathouseKey x = Texts.club("N3R255P077P177P277P377H09H19H29F9");
        for (int i = 0; i < 3; i++) {
            x.own(5);
            due.is("make once more", 3, x.make());
        }
        for (int i = 0; i < 3; i++) {
            Texts.put(x, "N3R255");
            due.is("make", 3, x.make());
            for (int person = 0; person < 3; person++) due.is("home " + person, 0, x.home(person));
            due.is("tenths", 0, x.count(3));
            due.is("places", 0, x.count(2));
            due.is("own", 0, x.own(0));
            for (int act = 0; act < 6; act++) {
                x.put(1, act);
                due.is("there is no place to lay it", 12, x.week(1, 12, 3));
                due.is("none walks", 0, x.week(1, 12, 0));
            }
        }
        Texts.put(x, "N1P011");
        x.make();
        due.is("sessions", 0, x.count(1));
        due.is("session 0", -1, x.session(0, 0));
        due.is("people", 1, x.count(0));
        due.is("no more", -1, x.home(1));
        due.is("nobody rows", 0, x.week(0, 10, 2));
    }

    private static void owning() {
        due.asks("Who has an OWN key, as bits: who had. BAD: others than PEOPLE.");
        for (int k = 1; k <= 6; k++) {
            BoathouseKey x = Texts.club("N" + k);
            int had = 0;
            for (int people = 0; people < 1 << k; people++) {
                due.is("own " + people, had, x.own(people));
                had = people;
            }
            int[] others = {1 << k, 1 << k | 1, 1 << 7, 1 << 30, -1, Integer.MIN_VALUE, Integer.MAX_VALUE};
            for (int people : others) due.is("own " + people + " of " + k, -2, x.own(people));
            due.is("nothing changed", had, x.own(0));
        }
        due.asks("(bits; none at first)");
        due.is("own", 0, new BoathouseKey().own(1));
    }
}
