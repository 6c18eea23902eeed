import java.util.ArrayList;
import java.util.Arrays;
import java.util.List;

/**
 * Passage 6: "Of several what is told first. What is refused changes nothing." Each call with each argument at its
 * bounds and beyond, in states that have much to lose; behind each refusal all that can be seen is as it was.
 */
public final class RefusalsTest {
    private static final Due due = new Due();
    private static final String LONGEST = "N6R000R101R202R303R404R505P000P111P222P333O001O112O223O334H01H12";

    /** States: nothing told; somebody inside; somebody outside; a full text; a text that is none. */
    private static final String[] STATES = {
        "",
        "text N3R014R156P031O028P212H14F3; make; text 4P09NP2; rule 0; put 1 200; own 4; keep 1; bring 12; tell 3 20; tell 9 11; "
            + "bring 10; hour 0; hour 0; keep 0; hour 1; text N2R100",
        "text N4R025R199P112O133H37; make; put 2 5; bring 13; hour 0; hour 1; hour 2; keep 0; hour 0; own 10; tell 0 0; text 0HH",
        "text " + LONGEST + "; make; put 0 77; own 42; hour 0; keep 1; bring 3; keep 0; tell 5 99; tell 6 15",
        "text N2R013; make; hour 0; text N3R0; keep 0",
        "text N1R099P355; make; bring 3; text 0P0",
    };

    /**
     * A call, its arguments (r rule, h hour, s session, p place, i person, b begin, t slot, v price, w where, W where or
     * 99, y yes or no, n what from 0 to n), and behind each what it is refused by. Refusals of one kind are told together.
     */
    private static final String[] CALLS = {
        "ruled r-1 h-1", "session s-1 2-2", "place p-1 3-2", "home i-1", "live 5-2", "keep t-1", "week r-1 b-1 3-2",
        "ahead r-1 b-1 h-1", "outside r-1 b-1 h-1", "ever r-1 b-1 4-2", "never r-1 b-1", "tell h-1 W-2", "judge r-1 b-1",
        "find v-2 v-2", "from v-2 v-2", "way v-2 v-2 h-1", "brief b-1 v-2 v-2", "briefPrice b-1 v-2 v-2 y-0",
        "put r-1 365-2", "keys r-1 b-1", "move r-1 b-1", "fits s-1 h-1", "mean r-1 b-1 y-0", "dry r-1 b-1 y-0",
        "chance r-1 b-1 h-1 w-2 y-0", "look r-1 b-1 h-1 i-0", "count 4-2", "hour r-1",
    };

    public static void main(String[] args) {
        for (String state : STATES) {
            for (String call : CALLS) everyArgument(state, call);
        }
        refusedByState();
        severalAtOnce();
        askingChangesNothing();
        due.end();
    }

    /** Right values (the least, the greatest, one between) and then values just beyond and far beyond. */
    private static int[][] valuesOf(String kind, BoathouseKey x) {
        switch (kind) {
            case "r":
                return beyond(0, 2);
            case "h":
            case "v":
                return beyond(0, 9);
            case "t":
                return beyond(0, 1);
            case "s":
                return beyond(0, x.count(1) - 1);
            case "i":
                return beyond(0, x.count(0) - 1);
            case "p":
                return chosen(x, new int[] {0, 1, 2, 3}, new int[] {-1, 4});
            case "b":
                return chosen(x, new int[] {0, 1, 2, 3, 10, 11, 12, 13, 14, 15}, new int[] {-1, 4, 9, 16, 20});
            case "w":
                return new int[][] {{0, 3, 10, 15, 20}, {-1, 4, 9, 16, 19, 21, 99}};
            case "W":
                return new int[][] {{0, 3, 10, 15, 20, 99}, {-1, 4, 9, 16, 19, 21, 98, 100}};
            default:
                return beyond(0, Integer.parseInt(kind));
        }
    }

    private static int[][] beyond(int least, int most) {
        int[] wrong = {least - 1, most + 1, Integer.MIN_VALUE, Integer.MAX_VALUE};
        return new int[][] {most < least ? new int[0] : new int[] {least, most}, wrong};
    }

    /** Of the places and people those that the club has are right, the others wrong. */
    private static int[][] chosen(BoathouseKey x, int[] maybe, int[] never) {
        List<Integer> right = new ArrayList<>();
        List<Integer> wrong = new ArrayList<>();
        for (int w : maybe) {
            boolean has = w < 10 ? x.place(w, 0) >= 0 : w < 10 + x.count(0);
            (has ? right : wrong).add(w);
        }
        for (int w : never) wrong.add(w);
        return new int[][] {right.stream().mapToInt(i -> i).toArray(), wrong.stream().mapToInt(i -> i).toArray()};
    }

    private static void everyArgument(String state, String told) {
        String[] words = told.split(" ");
        List<String> asItWas = Calls.allOf(Calls.after(state));
        List<String> calls = new ArrayList<>(List.of(words[0]));
        List<Integer> answers = new ArrayList<>(List.of(0));
        for (int i = 1; i < words.length; i++) {
            String[] kind = words[i].split("-");
            List<String> longer = new ArrayList<>();
            List<Integer> refused = new ArrayList<>();
            for (int c = 0; c < calls.size(); c++) {
                add(longer, refused, calls.get(c), answers.get(c), kind, Calls.after(state));
            }
            calls = longer;
            answers = refused;
        }
        for (int c = 0; c < calls.size(); c++) oneCall(state, calls.get(c), answers.get(c), asItWas);
    }

    private static void add(List<String> calls, List<Integer> answers, String call, int answer, String[] kind, BoathouseKey x) {
        if (kind[0].equals("y")) {
            calls.add(call + " true");
            answers.add(answer);
            return;
        }
        int[][] values = valuesOf(kind[0], x);
        for (int v : values[0]) {
            calls.add(call + " " + v);
            answers.add(answer);
        }
        for (int v : values[1]) {
            calls.add(call + " " + v);
            answers.add(answer != 0 ? answer : -Integer.parseInt(kind[1]));
        }
    }

    /** Refused is 0, if the call is to be taken. */
    private static void oneCall(String state, String call, int refused, List<String> asItWas) {
        BoathouseKey x = Calls.after(state);
        String answer = Calls.answer(x, call);
        if (refused == 0) {
            due.asks("a right call is taken, in the state " + state);
            due.same(call, "true", String.valueOf(answer.matches("-9|[0-9]+")));
            return;
        }
        due.asks("Of several what is told first: in the state " + state);
        due.same(call, String.valueOf(refused), answer);
        unchanged(call, asItWas, x);
    }

    private static void unchanged(String call, List<String> asItWas, BoathouseKey x) {
        due.asks("What is refused changes nothing.");
        List<String> is = Calls.allOf(x);
        String differs = "";
        for (int i = 0; i < is.size() && differs.isEmpty(); i++) {
            if (!is.get(i).equals(asItWas.get(i))) differs = is.get(i) + ", it was " + asItWas.get(i);
        }
        due.same(call + ", then all that can be seen", "", differs);
    }

    private static void refused(String state, String call, int want) {
        due.asks("refused in the state " + state);
        BoathouseKey x = Calls.after(state);
        due.same(call, String.valueOf(want), Calls.answer(x, call));
        unchanged(call, Calls.allOf(Calls.after(state)), x);
    }

    private static void refusedByState() {
        String inside = STATES[1];
        String outside = STATES[2];
        String full = STATES[3];
        String cut = STATES[4];
        for (int n = 1; n <= 8; n++) refused(full, "write " + n + " 5642809480520208944", -4);
        for (int n = 2; n <= 8; n++) refused("text " + LONGEST.substring(0, 63) + "; keep 0", "write " + n + " 20024", -4);
        refused("text " + LONGEST.substring(0, 57), "write 8 0", -4);
        for (String state : STATES) {
            int[] none = {0, 9, -1, Integer.MIN_VALUE, Integer.MAX_VALUE};
            for (int n : none) refused(state, "write " + n + " 20017", -2);
            int[] rules = {-1, 3, Integer.MIN_VALUE, Integer.MAX_VALUE};
            for (int r : rules) refused(state, "rule " + r, -1);
            for (int t : new int[] {-1, 2, Integer.MIN_VALUE, Integer.MAX_VALUE}) refused(state, "again " + t, -1);
            for (int b : new int[] {-1, 4, 9, 16, 20, 99, Integer.MIN_VALUE, Integer.MAX_VALUE}) refused(state, "bring " + b, -1);
            for (int o : new int[] {-1, 64, 127, Integer.MIN_VALUE, Integer.MAX_VALUE}) refused(state, "own " + o, -2);
        }
        refused("", "make", -3);
        refused(outside, "make", -3);
        refused(cut, "make", -3);
        refused(STATES[5], "make", -3);
        refused("", "rule 0", -3);
        refused(inside, "rule 0", -3);
        refused(full, "rule 1", -3);
        refused(cut, "rule 2", -3);
        refused(STATES[5], "rule 0", -3);
        for (int b : new int[] {0, 2, 10, 11, 12}) refused(inside, "bring " + b, -3);
        refused("", "again 0", -3);
        refused("", "again 1", -3);
        refused(outside, "again 1", -3);
        refused(cut, "again 1", -3);
        refused(inside, "own 8", -2);
        refused(inside, "own 9", -2);
        refused(outside, "own 16", -2);
        refusedShifts(inside, outside);
    }

    private static void refusedShifts(String inside, String outside) {
        refused(inside, "shift 0 0", -3);
        refused(inside, "shift 0 1", -3);
        refused(inside, "shift 1 8", -3);
        refused(inside, "shift 0 7", -2);
        refused(inside, "shift 1 9", -2);
        refused(inside, "shift 2 0", -1);
        refused(inside, "shift 0 10", -1);
        refused(outside, "shift 0 6", -3);
        refused(outside, "shift 1 0", -3);
        refused(outside, "shift 0 7", -2);
        String rests = "text N2R013R055R199; make; hour 0; own 1; keep 0; text H";
        for (int h : new int[] {3, 4, 5, 8, 9}) refused(rests, "shift 0 " + h, -2);
        for (int h : new int[] {1, 2, 3}) refused(rests, "shift 1 " + h, -2);
        for (int h : new int[] {-1, 10, Integer.MIN_VALUE, Integer.MAX_VALUE}) refused(rests, "shift 1 " + h, -1);
        for (int s : new int[] {-1, 3, Integer.MIN_VALUE, Integer.MAX_VALUE}) refused(rests, "shift " + s + " 0", -1);
    }

    private static void severalAtOnce() {
        String full = STATES[3];
        refused(full, "write 0 0", -2);
        refused(full, "write 9 0", -2);
        refused(STATES[4], "rule 3", -1);
        refused(STATES[4], "rule -1", -1);
        refused(STATES[1], "bring 1", -1);
        refused(STATES[1], "bring 13", -1);
        refused(STATES[1], "bring 20", -1);
        refused("", "again 2", -1);
        refused(STATES[1], "shift 9 9", -1);
        refused(STATES[1], "shift 0 -1", -1);
        refused(STATES[1], "shift 1 9", -2);
        refused(STATES[2], "shift 0 8", -2);
        refused("text N2R000R111; make; own 2", "way 1 1 10", -1);
        refused("text N2R000R111; make; own 2", "way 10 1 10", -2);
        refused("text N2R000R114; make", "brief 11 10 0", -2);
        refused("text N2R000R114; make", "brief 12 10 0", -1);
    }

    /** What only asks leaves all as it was, too; so do right calls with no effect that could be seen. */
    private static void askingChangesNothing() {
        String[] asks = {"fault false", "fault true", "ruled 1 4", "session 0 0", "place 0 0", "home 0", "where", "live 3",
            "week 0 10 0", "ahead 1 10 9", "outside 2 10 5", "ever 0 10 4", "never 1 10", "judge 0 10", "find 1 2", "from 2 1",
            "way 1 1 4", "bar", "brief 10 1 1", "briefPrice 10 1 1 true", "keys 0 10", "move 0 10", "fits 0 0",
            "mean 0 10 true", "dry 1 10 false", "chance 0 10 9 10 true", "look 0 10 5 0", "count 4"};
        for (String state : STATES) {
            List<String> asItWas = Calls.allOf(Calls.after(state));
            BoathouseKey x = Calls.after(state);
            for (String call : asks) {
                BoathouseKey y = Calls.after(state);
                String first = Calls.answer(y, call);
                due.asks("the same calls, the same answers: in the state " + state);
                due.same(call + " twice", first, Calls.answer(y, call));
                due.same(call + " behind others", first, Calls.answer(x, call));
                unchanged(call, asItWas, y);
            }
            unchanged(Arrays.toString(asks), asItWas, x);
        }
    }
}
