import java.util.ArrayList;
import java.util.Arrays;
import java.util.Comparator;
import java.util.List;
import java.util.Random;

/**
 * Random runs of calls, each answer compared with a second, slow reading of the document that shares no
 * code with the program: all states by brute force, all rows where they are few, whole rows compared.
 */
public final class OracleTest {
    private static final int BAD = -1, NONE = -2, TOO_MANY = -3;
    private static int wrong = 0;
    private static int asked = 0;
    private static final int[] seen = new int[12];

    public static void main(String[] args) {
        int runs = args.length > 0 ? Integer.parseInt(args[0]) : 150;
        for (int seed = 0; seed < runs; seed++) {
            new Run(seed).play();
        }
        String[] names = {"rows found", "no rows", "too many", "narrowed", "blocked by state rules",
            "blocked by step rules", "repaired", "not repaired", "passing", "repair too many", "all rows listed", "twins"};
        for (int i = 0; i < names.length; i++) {
            System.out.println("  " + names[i] + ": " + seen[i]);
            if (seen[i] == 0) {
                wrong++;
                System.out.println("no run came to: " + names[i]);
            }
        }
        System.out.println(asked + " answers, " + wrong + " wrong");
        if (wrong != 0) {
            System.exit(1);
        }
    }

    /** One run of random calls on one object. */
    private static final class Run {
        final int seed;
        final Random random;
        final ChoraleSearch x = new ChoraleSearch();
        final Oracle o = new Oracle();
        final StringBuilder told = new StringBuilder();
        int calls = 0;

        Run(int seed) {
            this.seed = seed;
            this.random = new Random(seed);
        }

        void due(String call, int got, int want) {
            asked++;
            calls++;
            told.append("  ").append(call).append(" = ").append(want).append('\n');
            if (got != want) {
                wrong++;
                if (wrong < 4) {
                    System.out.println("seed " + seed + ":\n" + told + call + " answered " + got + ", due is " + want);
                }
            }
        }

        int upTo(int n) {
            return random.nextInt(n);
        }

        int wild(int low, int high) {
            return upTo(25) == 0 ? (random.nextBoolean() ? low - 1 - upTo(3) : high + 1 + upTo(3)) : low + upTo(high - low + 1);
        }

        void play() {
            start();
            while (calls < 420) {
                for (int n = upTo(4); n >= 0; n--) {
                    tell();
                }
                ask();
            }
        }

        void start() {
            if (upTo(3) > 0) {
                doKey(upTo(12), upTo(2));
            }
            if (seed % 7 == 3) {
                doKey(upTo(12), 1);
                doStyle(11, true);
                doStyle(12, true);
            }
            doPlaces(1 + upTo(seed % 5 == 0 ? 16 : 6));
            for (int c = 0; c < 13; c++) {
                if (upTo(4) == 0) {
                    doStyle(c, true);
                }
            }
            melody(upTo(4));
            if (upTo(3) == 0) {
                melody(3);
            }
        }

        void melody(int voice) {
            int[] lows = {60, 53, 48, 40};
            int[] scale = {0, 2, 4, 5, 7, 9, 11, 0, 2, 3, 5, 7, 8, 11};
            int at = lows[voice] + 4 + upTo(14);
            for (int i = 0; i < o.n; i++) {
                int pitch = at + upTo(5) - 2;
                for (int tries = 0; tries < 12; tries++) {
                    int degree = Math.floorMod(pitch - o.tonic, 12);
                    boolean in = false;
                    for (int k = 0; k < 7; k++) {
                        in |= scale[o.minor * 7 + k] == degree;
                    }
                    if (in) {
                        break;
                    }
                    pitch++;
                }
                at = Math.min(lows[voice] + 19, Math.max(lows[voice] + 2, pitch));
                doGiven(voice, i, i == o.n - 1 && upTo(3) > 0 ? lastPitch(at) : pitch);
            }
        }

        int lastPitch(int near) {
            int[] degrees = {0, o.minor == 1 ? 3 : 4, 7};
            for (int d = 0; d < 12; d++) {
                for (int degree : degrees) {
                    if (Math.floorMod(near + d - o.tonic, 12) == degree) {
                        return near + d;
                    }
                }
            }
            return near;
        }

        void doKey(int tonic, int minor) {
            due("key(" + tonic + ", " + minor + ")", x.key(tonic, minor), o.key(tonic, minor));
        }

        void doPlaces(int n) {
            due("places(" + n + ")", x.places(n), o.places(n));
        }

        void doGiven(int v, int i, int p) {
            due("given(" + v + ", " + i + ", " + p + ")", x.given(v, i, p), o.given(v, i, p));
        }

        void doStyle(int c, boolean on) {
            due("style(" + c + ", " + on + ")", x.style(c, on), o.style(c, on));
        }

        void tell() {
            int i = wild(0, o.n - 1);
            int v = wild(0, 3);
            switch (upTo(18)) {
                case 0:
                    doKey(wild(0, 11), wild(0, 1));
                    break;
                case 1:
                    doPlaces(upTo(6) == 0 ? wild(1, 16) : Math.max(1, Math.min(16, o.n + upTo(3) - 1)));
                    break;
                case 2:
                case 3:
                case 4:
                    if (upTo(12) == 0) {
                        doGiven(v, i, upTo(4) == 0 ? wild(36, 84) : wild(45 + 5 * (3 - Math.min(3, Math.max(0, v))), 72));
                    } else {
                        givePartOfState(upTo(o.n));
                    }
                    break;
                case 5:
                case 6:
                    due("free(" + v + ", " + i + ")", x.free(v, i), o.free(v, i));
                    break;
                case 7:
                case 8: {
                    int c = wild(-1, 12);
                    due("figure(" + i + ", " + c + ")", x.figure(i, c), o.figure(i, c));
                    break;
                }
                case 9: {
                    due("figure(" + i + ", -1)", x.figure(i, -1), o.figure(i, -1));
                    break;
                }
                case 10: {
                    int k = wild(-1, 3);
                    due("inversion(" + i + ", " + k + ")", x.inversion(i, k), o.inversion(i, k));
                    break;
                }
                case 11:
                    due("inversion(" + i + ", -1)", x.inversion(i, -1), o.inversion(i, -1));
                    break;
                case 12: {
                    boolean on = upTo(3) == 0;
                    due("fermata(" + i + ", " + on + ")", x.fermata(i, on), o.fermata(i, on));
                    break;
                }
                case 13:
                    doStyle(wild(0, 12), upTo(4) > 0);
                    break;
                case 14: {
                    int k = wild(0, 8);
                    int c = upTo(3) == 0 ? wild(0, 1000) : upTo(8);
                    due("cost(" + k + ", " + c + ")", x.cost(k, c), o.cost(k, c));
                    break;
                }
                case 15: {
                    int[] lows = {60, 53, 48, 40};
                    int low = lows[Math.min(3, Math.max(0, v))] + upTo(7) - 3;
                    int high = low + upTo(22);
                    if (upTo(10) == 0) {
                        low = wild(36, 84);
                        high = wild(36, 84);
                    }
                    due("range(" + v + ", " + low + ", " + high + ")", x.range(v, low, high), o.range(v, low, high));
                    break;
                }
                case 16:
                    melody(upTo(4));
                    break;
                default: {
                    for (int p = 0; p < o.n; p++) {
                        if (o.statesAt(p).size() > 400) {
                            doGiven(0, p, 60 + upTo(20));
                        }
                    }
                }
            }
        }

        void givePartOfState(int i) {
            List<State> here = o.statesAt(i);
            if (!here.isEmpty()) {
                State st = here.get(upTo(here.size()));
                for (int v = 0; v < 4; v++) {
                    if (upTo(3) == 0) {
                        doGiven(v, i, st.p[v]);
                    }
                }
            }
        }

        /** Without it nearly all runs would end where a place has no states. */
        void ease() {
            for (int tries = 0; tries < 6 && o.blocked(0) >= 0 && upTo(8) > 0; tries++) {
                int i = o.blocked(0);
                due("figure(" + i + ", -1)", x.figure(i, -1), o.figure(i, -1));
                due("inversion(" + i + ", -1)", x.inversion(i, -1), o.inversion(i, -1));
                int keep = upTo(5);
                for (int v = 0; v < 4; v++) {
                    if (v != keep) {
                        due("free(" + v + ", " + i + ")", x.free(v, i), o.free(v, i));
                    }
                }
                if (o.statesAt(i).size() > 400) {
                    givePartOfState(i);
                }
            }
            for (int i = 0; i < o.n; i++) {
                if (o.statesAt(i).size() > 400 && upTo(6) > 0) {
                    givePartOfState(i);
                }
            }
        }

        void ask() {
            if (upTo(3) > 0) {
                ease();
            }
            for (int i = -1; i <= o.n; i++) {
                due("states(" + i + ")", x.states(i), o.states(i));
            }
            int what = wild(0, 5);
            due("count(" + what + ")", x.count(what), o.count(what));
            int c = wild(0, 12);
            int k = wild(0, 3);
            due("member(" + c + ", " + k + ")", x.member(c, k), o.member(c, k));
            askRows();
            int beam = upTo(2) == 0 ? 0 : upTo(2) == 0 ? wild(0, 100) : 1 + upTo(12);
            int found = o.solve(beam);
            due("solve(" + beam + ")", x.solve(beam), found);
            seen[found > 0 ? 0 : found == 0 ? 1 : 2]++;
            askRows();
            for (int w = -1; w <= 3; w++) {
                due("blocked(" + w + ")", x.blocked(w), o.blocked(w));
            }
            if (o.blocked(0) >= 0) {
                seen[o.blocked(1) == 0 ? 4 : 5]++;
            }
            int repaired = o.repair();
            due("repair()", x.repair(), repaired);
            if (repaired >= 0) {
                seen[6]++;
            } else if (repaired == NONE) {
                seen[7]++;
            } else if (repaired == TOO_MANY && o.blocked(0) != TOO_MANY) {
                seen[9]++;
            }
        }

        void askRows() {
            due("count(4)", x.count(4), o.count(4));
            due("least()", x.least(), o.least());
            if (o.least() == 0) {
                seen[3]++;
            }
            for (int k = -1; k <= 4; k++) {
                due("sum(" + k + ")", x.sum(k), o.sum(k));
            }
            for (int k = 0; k < o.found.size(); k++) {
                for (int i = 0; i < o.n; i++) {
                    calls -= 5;
                    due("chord(" + k + ", " + i + ")", x.chord(k, i), o.chord(k, i));
                    for (int v = 0; v < 4; v++) {
                        due("note(" + k + ", " + v + ", " + i + ")", x.note(k, v, i), o.note(k, v, i));
                    }
                }
            }
            int k = wild(0, 3);
            int i = wild(0, o.n - 1);
            int v = wild(0, 3);
            due("chord(" + k + ", " + i + ")", x.chord(k, i), o.chord(k, i));
            due("note(" + k + ", " + v + ", " + i + ")", x.note(k, v, i), o.note(k, v, i));
            for (int p = -1; p <= o.n; p++) {
                int want = o.passing(p, v);
                if (want >= 0) {
                    seen[8]++;
                }
                due("passing(" + p + ", " + v + ")", x.passing(p, v), want);
            }
        }
    }

    /** A chord and four pitches. */
    private static final class State {
        final int[] p;
        final int chord;

        State(int[] p, int chord) {
            this.p = p;
            this.chord = chord;
        }
    }

    /** States from some place to the end, with their sum. */
    private static final class Rest {
        final List<State> states;
        final int sum;

        Rest(List<State> states, int sum) {
            this.states = states;
            this.sum = sum;
        }
    }

    private static final Comparator<State> STATE_ORDER = (a, b) -> {
        for (int v = 0; v < 4; v++) {
            if (a.p[v] != b.p[v]) {
                return Integer.compare(a.p[v], b.p[v]);
            }
        }
        return Integer.compare(a.chord, b.chord);
    };

    private static final Comparator<Rest> ORDER = (a, b) -> {
        if (a.sum != b.sum) {
            return Integer.compare(a.sum, b.sum);
        }
        for (int i = 0; i < a.states.size(); i++) {
            int c = STATE_ORDER.compare(a.states.get(i), b.states.get(i));
            if (c != 0) {
                return c;
            }
        }
        return 0;
    };

    /** The document, word by word and slowly. */
    private static final class Oracle {
        static final String[] MAJOR = {"0 4 7", "2 5 9", "4 7 11", "5 9 0", "7 11 2", "9 0 4", "11 2 5", "7 11 2 5",
            "2 5 9 0", "2 6 9", "2 6 9 0", "4 8 11", "0 4 7 10"};
        static final String[] MINOR = {"0 3 7", "2 5 8", "3 7 10", "5 8 0", "7 11 2", "8 0 3", "11 2 5", "7 11 2 5",
            "2 5 8 0", "2 6 9", "2 6 9 0", "3 7 10", "0 4 7 10"};
        static final String FUNCTIONS = "TSTSDTDDSAAAA";

        int tonic = 0, minor = 0, n = 4;
        int[][] notes = new int[16][4];
        int[] figures = new int[16], inversions = new int[16];
        boolean[] fermatas = new boolean[16];
        boolean[] style = new boolean[13];
        int[] costs = {1, 2, 2, 1, 1, 4, 2, 5, 2};
        int[][] ranges = {{60, 81}, {53, 74}, {48, 69}, {40, 62}};
        List<Rest> found = new ArrayList<>();
        boolean leftOut = false;
        List<List<State>> cache = null;

        Oracle() {
            for (int[] row : notes) {
                Arrays.fill(row, NONE);
            }
            Arrays.fill(figures, NONE);
            Arrays.fill(inversions, NONE);
            for (int c = 0; c <= 7; c++) {
                style[c] = true;
            }
        }

        int changed(int answer) {
            found.clear();
            cache = null;
            return answer;
        }

        boolean noPlace(int i) {
            return i < 0 || i >= n;
        }

        boolean noVoice(int v) {
            return v < 0 || v > 3;
        }

        int key(int t, int m) {
            if (t < 0 || t > 11 || (m != 0 && m != 1)) {
                return BAD;
            }
            tonic = t;
            minor = m;
            return changed(1);
        }

        int places(int count) {
            if (count < 1 || count > 16) {
                return BAD;
            }
            int was = n;
            n = count;
            for (int i = count; i < 16; i++) {
                notes[i] = new int[] {NONE, NONE, NONE, NONE};
                figures[i] = NONE;
                inversions[i] = NONE;
                fermatas[i] = false;
            }
            return changed(was);
        }

        int given(int v, int i, int p) {
            if (noVoice(v) || noPlace(i) || p < 36 || p > 84) {
                return BAD;
            }
            int was = notes[i][v];
            notes[i][v] = p;
            return changed(was);
        }

        int free(int v, int i) {
            if (noVoice(v) || noPlace(i)) {
                return BAD;
            }
            int was = notes[i][v];
            notes[i][v] = NONE;
            return changed(was);
        }

        int figure(int i, int c) {
            if (noPlace(i) || c < -1 || c > 12) {
                return BAD;
            }
            int was = figures[i];
            figures[i] = c < 0 ? NONE : c;
            return changed(was);
        }

        int inversion(int i, int k) {
            if (noPlace(i) || k < -1 || k > 3) {
                return BAD;
            }
            int was = inversions[i];
            inversions[i] = k < 0 ? NONE : k;
            return changed(was);
        }

        int fermata(int i, boolean on) {
            if (noPlace(i)) {
                return BAD;
            }
            int was = fermatas[i] ? 1 : 0;
            fermatas[i] = on;
            return changed(was);
        }

        int style(int c, boolean on) {
            if (c < 0 || c > 12) {
                return BAD;
            }
            int was = style[c] ? 1 : 0;
            style[c] = on;
            return changed(was);
        }

        int cost(int k, int v) {
            if (k < 0 || k > 8 || v < 0 || v > 1000) {
                return BAD;
            }
            int was = costs[k];
            costs[k] = v;
            return changed(was);
        }

        int range(int v, int low, int high) {
            if (noVoice(v) || low < 36 || high > 84 || high < low) {
                return BAD;
            }
            ranges[v] = new int[] {low, high};
            return changed(1);
        }

        int[] classes(int chord) {
            String[] parts = (minor == 1 ? MINOR : MAJOR)[chord].split(" ");
            int[] out = new int[parts.length];
            for (int k = 0; k < out.length; k++) {
                out[k] = (Integer.parseInt(parts[k]) + tonic) % 12;
            }
            return out;
        }

        int member(int c, int k) {
            if (c < 0 || c > 12 || k < 0 || k > 3) {
                return BAD;
            }
            int[] m = classes(c);
            return k < m.length ? m[k] : NONE;
        }

        static int memberOf(int[] members, int pitch) {
            for (int k = 0; k < members.length; k++) {
                if (members[k] == pitch % 12) {
                    return k;
                }
            }
            return -1;
        }

        static int times(int[] p, int cls) {
            int t = 0;
            for (int pitch : p) {
                t += pitch % 12 == cls ? 1 : 0;
            }
            return t;
        }

        /** All states that keep rules 1 and 2. */
        List<State> candidates(int i) {
            List<State> out = new ArrayList<>();
            for (int c = 0; c < 13; c++) {
                if (!style[c] || (figures[i] != NONE && figures[i] != c)) {
                    continue;
                }
                int[] m = classes(c);
                List<List<Integer>> choice = new ArrayList<>();
                for (int v = 0; v < 4; v++) {
                    List<Integer> ps = new ArrayList<>();
                    for (int p = ranges[v][0]; p <= ranges[v][1]; p++) {
                        int k = memberOf(m, p);
                        boolean asGiven = notes[i][v] == NONE || notes[i][v] == p;
                        boolean asInverted = v < 3 || inversions[i] == NONE || inversions[i] == k;
                        if (k >= 0 && asGiven && asInverted) {
                            ps.add(p);
                        }
                    }
                    choice.add(ps);
                }
                for (int s : choice.get(0)) {
                    for (int a : choice.get(1)) {
                        for (int t : choice.get(2)) {
                            for (int b : choice.get(3)) {
                                out.add(new State(new int[] {s, a, t, b}, c));
                            }
                        }
                    }
                }
            }
            return out;
        }

        int stateBars(int i, State st) {
            int bits = 0;
            int[] p = st.p;
            int[] m = classes(st.chord);
            int lead = (tonic + 11) % 12;
            if (p[1] > p[0] || p[2] > p[1] || p[3] > p[2] || p[0] - p[1] > 12 || p[1] - p[2] > 12 || p[2] - p[3] > 19) {
                bits |= 8;
            }
            if (times(p, m[0]) == 0 || times(p, m[1]) == 0 || (m.length == 4 && times(p, m[3]) == 0)) {
                bits |= 16;
            }
            boolean leads = st.chord == 4 || st.chord == 6 || st.chord == 7 || (st.chord == 2 && minor == 0);
            if ((leads && times(p, lead) > 1) || (m.length == 4 && times(p, m[3]) > 1)) {
                bits |= 32;
            }
            if (i == n - 1 && (st.chord != 0 || p[3] % 12 != m[0])) {
                bits |= 64;
            }
            if (fermatas[i] && st.chord != 0 && st.chord != 4 && st.chord != 5) {
                bits |= 64;
            }
            return bits;
        }

        List<State> standing(int i) {
            List<State> out = new ArrayList<>();
            for (State st : candidates(i)) {
                if (stateBars(i, st) == 0) {
                    out.add(st);
                }
            }
            out.sort(STATE_ORDER);
            for (int k = 1; k < out.size(); k++) {
                if (Arrays.equals(out.get(k).p, out.get(k - 1).p)) {
                    seen[11]++;
                }
            }
            return out;
        }

        List<State> statesAt(int i) {
            if (cache == null) {
                cache = new ArrayList<>();
                for (int k = 0; k < n; k++) {
                    cache.add(standing(k));
                }
            }
            return cache.get(i);
        }

        int states(int i) {
            return noPlace(i) ? BAD : statesAt(i).size();
        }

        boolean tooMany() {
            for (int i = 0; i < n; i++) {
                if (statesAt(i).size() > 400) {
                    return true;
                }
            }
            return false;
        }

        /** Units of the grammar, or -1: barred. */
        static int units(int from, int to) {
            if (from == to) {
                return 3;
            }
            char f = FUNCTIONS.charAt(from);
            char t = FUNCTIONS.charAt(to);
            if (f == 'T') {
                return t == 'T' ? 2 : 0;
            }
            if (f == 'S') {
                if (t == 'D') {
                    return 0;
                }
                if (t == 'S') {
                    return 2;
                }
                if (t == 'T') {
                    return from == 3 && to == 0 ? 2 : 4;
                }
                return 1;
            }
            if (f == 'D') {
                if (to == 0) {
                    return 0;
                }
                if (to == 5) {
                    return 2;
                }
                if (t == 'D') {
                    return from == 7 && (to == 4 || to == 6) ? 3 : 1;
                }
                return to == 12 ? 2 : -1;
            }
            boolean aim = from <= 10 ? to == 4 || to == 7 : from == 11 ? to == 5 : to == 3;
            if (aim) {
                return 0;
            }
            return from == 9 && to == 10 ? 1 : -1;
        }

        int stepBars(State from, State to) {
            int bits = 0;
            if (units(from.chord, to.chord) < 0) {
                bits |= 1 << 7;
            }
            for (int v = 0; v < 4; v++) {
                for (int w = 0; w < 4; w++) {
                    if (v != w && from.p[v] != to.p[v] && from.p[w] != to.p[w]) {
                        int was = Math.abs(from.p[v] - from.p[w]) % 12;
                        int is = Math.abs(to.p[v] - to.p[w]) % 12;
                        if ((was == 0 && is == 0) || (was == 7 && is == 7)) {
                            bits |= 1 << 8;
                        }
                    }
                }
                int by = Math.abs(to.p[v] - from.p[v]);
                if (by == 6 || by == 10 || by == 11 || by > 12) {
                    bits |= 1 << 9;
                }
                if (v > 0 && to.p[v] > from.p[v - 1]) {
                    bits |= 1 << 10;
                }
                if (v < 3 && to.p[v] < from.p[v + 1]) {
                    bits |= 1 << 10;
                }
            }
            boolean leads = from.chord == 4 || from.chord == 6 || from.chord == 7;
            if (leads && (to.chord == 0 || to.chord == 5)) {
                for (int v = 0; v < 4; v += 3) {
                    if ((from.p[v] + 1) % 12 == tonic && to.p[v] - from.p[v] != 1) {
                        bits |= 1 << 11;
                    }
                }
            }
            int[] m = classes(from.chord);
            if (m.length == 4 && from.chord != to.chord) {
                for (int v = 0; v < 4; v++) {
                    int by = to.p[v] - from.p[v];
                    if (from.p[v] % 12 == m[3] && by != 0 && by != -1 && by != -2) {
                        bits |= 1 << 12;
                    }
                }
            }
            return bits;
        }

        int stateCost(State st) {
            int[] m = classes(st.chord);
            int total = 0;
            if (times(st.p, m[2]) == 0) {
                total += costs[2];
            }
            total += costs[3] * new int[] {0, 1, 6, 2}[memberOf(m, st.p[3])];
            if ((st.chord == 0 || st.chord == 3 || st.chord == 4) && times(st.p, m[1]) > 1) {
                total += costs[6];
            }
            for (int v = 0; v < 3; v++) {
                total += st.p[v] == st.p[v + 1] ? costs[8] : 0;
            }
            return total;
        }

        int stepCost(State from, State to) {
            int total = costs[4] * units(from.chord, to.chord);
            for (int v = 0; v < 3; v++) {
                int by = Math.abs(from.p[v] - to.p[v]);
                if (by > 2) {
                    total += (by - 2) * costs[0];
                }
            }
            int soprano = to.p[0] - from.p[0];
            int bass = to.p[3] - from.p[3];
            if (Math.abs(bass) > 7) {
                total += costs[1];
            }
            int apart = (to.p[0] - to.p[3]) % 12;
            if (soprano * bass > 0 && Math.abs(soprano) > 2 && (apart == 0 || apart == 7)) {
                total += costs[5];
            }
            if (Arrays.equals(from.p, to.p)) {
                total += costs[7];
            }
            return total;
        }

        int solve(int beam) {
            if (beam < 0 || beam > 100) {
                return BAD;
            }
            found.clear();
            leftOut = false;
            if (tooMany()) {
                return TOO_MANY;
            }
            List<List<Rest>> later = new ArrayList<>();
            for (int i = n - 1; i >= 0; i--) {
                List<List<Rest>> now = new ArrayList<>();
                for (State st : statesAt(i)) {
                    List<Rest> rests = restsOf(st, later, i == n - 1);
                    if (!rests.isEmpty()) {
                        now.add(rests);
                    }
                }
                now.sort((a, b) -> ORDER.compare(a.get(0), b.get(0)));
                if (beam > 0 && now.size() > beam) {
                    leftOut = true;
                    now = new ArrayList<>(now.subList(0, beam));
                }
                later = now;
            }
            List<Rest> all = new ArrayList<>();
            for (List<Rest> rests : later) {
                all.addAll(rests);
            }
            all.sort(ORDER);
            found = new ArrayList<>(all.subList(0, Math.min(4, all.size())));
            if (beam == 0) {
                checkAgainstAllRows();
            }
            return found.size();
        }

        List<Rest> restsOf(State st, List<List<Rest>> later, boolean last) {
            List<Rest> out = new ArrayList<>();
            if (last) {
                out.add(new Rest(List.of(st), stateCost(st)));
                return out;
            }
            for (List<Rest> rests : later) {
                State next = rests.get(0).states.get(0);
                if (stepBars(st, next) == 0) {
                    for (Rest rest : rests) {
                        List<State> states = new ArrayList<>();
                        states.add(st);
                        states.addAll(rest.states);
                        out.add(new Rest(states, stateCost(st) + stepCost(st, next) + rest.sum));
                    }
                }
            }
            out.sort(ORDER);
            return new ArrayList<>(out.subList(0, Math.min(4, out.size())));
        }

        /** Where rows are few: lists every one and looks at the first four. */
        void checkAgainstAllRows() {
            List<Rest> rows = new ArrayList<>();
            rows.add(new Rest(List.of(), 0));
            for (int i = 0; i < n; i++) {
                List<Rest> longer = new ArrayList<>();
                for (Rest row : rows) {
                    for (State st : statesAt(i)) {
                        if (i > 0 && stepBars(row.states.get(i - 1), st) != 0) {
                            continue;
                        }
                        List<State> states = new ArrayList<>(row.states);
                        states.add(st);
                        int step = i > 0 ? stepCost(row.states.get(i - 1), st) : 0;
                        longer.add(new Rest(states, row.sum + step + stateCost(st)));
                    }
                    if (longer.size() > 3000) {
                        return;
                    }
                }
                rows = longer;
            }
            rows.sort(ORDER);
            if (!rows.isEmpty()) {
                seen[10]++;
            }
            boolean same = found.size() == Math.min(4, rows.size());
            for (int k = 0; same && k < found.size(); k++) {
                same = ORDER.compare(found.get(k), rows.get(k)) == 0;
            }
            if (!same) {
                wrong++;
                System.out.println("the oracle itself differs from the list of all rows");
            }
        }

        int note(int k, int v, int i) {
            return k < 0 || k >= found.size() || noVoice(v) || noPlace(i) ? BAD : found.get(k).states.get(i).p[v];
        }

        int chord(int k, int i) {
            return k < 0 || k >= found.size() || noPlace(i) ? BAD : found.get(k).states.get(i).chord;
        }

        int sum(int k) {
            return k < 0 || k >= found.size() ? BAD : found.get(k).sum;
        }

        int least() {
            return found.isEmpty() ? BAD : leftOut ? 0 : 1;
        }

        List<List<State>> comers() {
            List<List<State>> out = new ArrayList<>();
            for (int i = 0; i < n; i++) {
                List<State> here = new ArrayList<>();
                for (State st : statesAt(i)) {
                    boolean comes = i == 0;
                    for (int k = 0; i > 0 && !comes && k < out.get(i - 1).size(); k++) {
                        comes = stepBars(out.get(i - 1).get(k), st) == 0;
                    }
                    if (comes) {
                        here.add(st);
                    }
                }
                out.add(here);
            }
            return out;
        }

        int blocked(int what) {
            if (what < 0 || what > 2) {
                return BAD;
            }
            if (tooMany()) {
                return TOO_MANY;
            }
            List<List<State>> comers = comers();
            for (int i = 0; i < n; i++) {
                if (comers.get(i).isEmpty()) {
                    if (what == 0) {
                        return i;
                    }
                    if (what == 1) {
                        return statesAt(i).size();
                    }
                    int bits = 0;
                    if (statesAt(i).isEmpty()) {
                        for (State st : candidates(i)) {
                            bits |= stateBars(i, st);
                        }
                    } else {
                        for (State from : comers.get(i - 1)) {
                            for (State to : statesAt(i)) {
                                bits |= stepBars(from, to);
                            }
                        }
                    }
                    return bits;
                }
            }
            return NONE;
        }

        int repair() {
            if (tooMany()) {
                return TOO_MANY;
            }
            if (blocked(0) == NONE) {
                return BAD;
            }
            List<List<State>> kept = cache;
            int answer = NONE;
            for (int i = 0; i < n && answer == NONE; i++) {
                for (int v = 0; v < 4 && answer == NONE; v++) {
                    int was = notes[i][v];
                    if (was == NONE) {
                        continue;
                    }
                    notes[i][v] = NONE;
                    cache = new ArrayList<>(kept);
                    cache.set(i, standing(i));
                    if (tooMany()) {
                        answer = TOO_MANY;
                    } else if (blocked(0) == NONE) {
                        answer = i * 4 + v;
                    }
                    notes[i][v] = was;
                }
            }
            cache = kept;
            return answer;
        }

        int passing(int i, int v) {
            if (found.isEmpty() || i < 0 || i + 1 >= n || noVoice(v)) {
                return BAD;
            }
            int a = note(0, v, i);
            int b = note(0, v, i + 1);
            if (Math.abs(a - b) == 3 || Math.abs(a - b) == 4) {
                List<Integer> scale = minor == 1 ? List.of(0, 2, 3, 5, 7, 8, 11) : List.of(0, 2, 4, 5, 7, 9, 11);
                for (int p = Math.min(a, b) + 1; p <= Math.min(a, b) + 2; p++) {
                    if (scale.contains(Math.floorMod(p - tonic, 12))) {
                        return p;
                    }
                }
            }
            return NONE;
        }

        int count(int what) {
            int total = 0;
            switch (what) {
                case 0:
                    return tonic;
                case 1:
                    return minor;
                case 2:
                    return n;
                case 3:
                    for (int[] row : notes) {
                        for (int p : row) {
                            total += p == NONE ? 0 : 1;
                        }
                    }
                    return total;
                case 4:
                    return found.size();
                case 5:
                    for (boolean on : style) {
                        total += on ? 1 : 0;
                    }
                    return total;
                default:
                    return BAD;
            }
        }
    }
}
