import java.util.Arrays;

/** Four-part chorales over a row of places: what is given, what may stand, and the cheapest rows. */
public final class ChoraleSearch {
    public static final int BAD = -1, NONE = -2, TOO_MANY = -3;

    private static final int VOICES = 4, SOPRANO = 0, BASS = 3;
    private static final int CHORDS = 13, MEMBERS = 4, ROOT = 0, THIRD = 1, FIFTH = 2, SEVENTH = 3;
    private static final int LOWEST = 36, HIGHEST = 84, OCTAVE = 12;
    private static final int MOST_PLACES = 16, MOST_STATES = 400, MOST_ROWS = 4, WIDEST_BEAM = 100;
    private static final int KINDS = 9, DEAREST = 1000;

    private final Score score;
    private final Harmony harmony;
    private final Table table;
    private final Reach reach;
    private final RowSearch search;

    public ChoraleSearch() {
        score = new Score();
        harmony = new Harmony();
        StateRules stateRules = new StateRules(score, harmony);
        StepRules stepRules = new StepRules(harmony);
        table = new Table(score, stateRules);
        reach = new Reach(score, table, stateRules, stepRules);
        search = new RowSearch(score, table, stepRules, new Costs(score, harmony));
    }

    public int key(int tonic, int minor) {
        if (tonic < 0 || tonic >= OCTAVE || minor < 0 || minor > 1) {
            return BAD;
        }
        harmony.tune(tonic, minor);
        forgetFound();
        return 1;
    }

    public int places(int n) {
        if (n < 1 || n > MOST_PLACES) {
            return BAD;
        }
        int before = score.placeCount;
        score.placeCount = n;
        score.clearFrom(n);
        forgetFound();
        return before;
    }

    public int given(int voice, int i, int pitch) {
        if (!isVoice(voice) || !isPlace(i) || !isPitch(pitch)) {
            return BAD;
        }
        return setPitch(voice, i, pitch);
    }

    public int free(int voice, int i) {
        if (!isVoice(voice) || !isPlace(i)) {
            return BAD;
        }
        return setPitch(voice, i, NONE);
    }

    public int figure(int i, int chord) {
        if (!isPlace(i) || chord < -1 || chord >= CHORDS) {
            return BAD;
        }
        int before = score.figures[i];
        score.figures[i] = chord == -1 ? NONE : chord;
        forgetFound();
        return before;
    }

    public int inversion(int i, int k) {
        if (!isPlace(i) || k < -1 || k >= MEMBERS) {
            return BAD;
        }
        int before = score.inversions[i];
        score.inversions[i] = k == -1 ? NONE : k;
        forgetFound();
        return before;
    }

    public int fermata(int i, boolean on) {
        if (!isPlace(i)) {
            return BAD;
        }
        int before = score.fermatas[i] ? 1 : 0;
        score.fermatas[i] = on;
        forgetFound();
        return before;
    }

    public int style(int chord, boolean on) {
        if (!isChord(chord)) {
            return BAD;
        }
        int before = (score.styleChords >> chord) & 1;
        int bit = 1 << chord;
        score.styleChords = on ? score.styleChords | bit : score.styleChords & ~bit;
        forgetFound();
        return before;
    }

    public int cost(int kind, int v) {
        if (kind < 0 || kind >= KINDS || v < 0 || v > DEAREST) {
            return BAD;
        }
        int before = score.prices[kind];
        score.prices[kind] = v;
        forgetFound();
        return before;
    }

    public int range(int voice, int low, int high) {
        if (!isVoice(voice) || !isPitch(low) || !isPitch(high) || low > high) {
            return BAD;
        }
        score.lows[voice] = low;
        score.highs[voice] = high;
        forgetFound();
        return 1;
    }

    public int solve(int beam) {
        if (beam < 0 || beam > WIDEST_BEAM) {
            return BAD;
        }
        table.prepare();
        if (table.overflows()) {
            return TOO_MANY;
        }
        search.run(beam);
        return search.rowCount;
    }

    public int note(int k, int voice, int i) {
        if (!isRow(k) || !isVoice(voice) || !isPlace(i)) {
            return BAD;
        }
        return Code.pitchOf(search.codeAt(k, i), voice);
    }

    public int chord(int k, int i) {
        if (!isRow(k) || !isPlace(i)) {
            return BAD;
        }
        return Code.chordOf(search.codeAt(k, i));
    }

    public int sum(int k) {
        return isRow(k) ? search.rowSums[k] : BAD;
    }

    public int least() {
        if (search.rowCount == 0) {
            return BAD;
        }
        return search.leftOut ? 0 : 1;
    }

    public int states(int i) {
        if (!isPlace(i)) {
            return BAD;
        }
        table.prepare();
        return table.layers[i].size;
    }

    public int blocked(int what) {
        if (what < 0 || what > 2) {
            return BAD;
        }
        table.prepare();
        if (table.overflows()) {
            return TOO_MANY;
        }
        int place = reach.firstUnreached();
        if (place == NONE) {
            return NONE;
        }
        switch (what) {
            case 0:
                return place;
            case 1:
                return table.layers[place].size;
            default:
                return reach.barringRules(place);
        }
    }

    public int repair() {
        table.prepare();
        if (table.overflows()) {
            return TOO_MANY;
        }
        if (reach.firstUnreached() == NONE) {
            return BAD;
        }
        return reach.noteToGiveWay();
    }

    public int passing(int i, int voice) {
        if (!isRow(0) || i < 0 || i >= score.placeCount - 1 || !isVoice(voice)) {
            return BAD;
        }
        int from = Code.pitchOf(search.codeAt(0, i), voice);
        int to = Code.pitchOf(search.codeAt(0, i + 1), voice);
        int move = Math.abs(to - from);
        if (move != 3 && move != 4) {
            return NONE;
        }
        int low = Math.min(from, to);
        if (harmony.inScale(low + 1)) {
            return low + 1;
        }
        return harmony.inScale(low + 2) ? low + 2 : NONE;
    }

    public int count(int what) {
        switch (what) {
            case 0:
                return harmony.tonic;
            case 1:
                return harmony.minor;
            case 2:
                return score.placeCount;
            case 3:
                return score.givenNotes();
            case 4:
                return search.rowCount;
            case 5:
                return Integer.bitCount(score.styleChords);
            default:
                return BAD;
        }
    }

    public int member(int chord, int k) {
        if (!isChord(chord) || k < 0 || k >= MEMBERS) {
            return BAD;
        }
        return harmony.memberClass(chord, k);
    }

    private static boolean isVoice(int voice) {
        return voice >= 0 && voice < VOICES;
    }

    private static boolean isChord(int chord) {
        return chord >= 0 && chord < CHORDS;
    }

    private static boolean isPitch(int pitch) {
        return pitch >= LOWEST && pitch <= HIGHEST;
    }

    private boolean isPlace(int i) {
        return i >= 0 && i < score.placeCount;
    }

    private boolean isRow(int k) {
        return k >= 0 && k < search.rowCount;
    }

    private int setPitch(int voice, int i, int pitch) {
        int at = i * VOICES + voice;
        int before = score.pitches[at];
        score.pitches[at] = pitch;
        forgetFound();
        return before;
    }

    private void forgetFound() {
        search.forget();
        table.spoil();
    }

    /** What the caller has told, beside the key. */
    private static final class Score {
        private int placeCount = 4;
        private int styleChords = 0xFF;
        private final int[] pitches = new int[MOST_PLACES * VOICES];
        private final int[] figures = new int[MOST_PLACES];
        private final int[] inversions = new int[MOST_PLACES];
        private final boolean[] fermatas = new boolean[MOST_PLACES];
        private final int[] prices = {1, 2, 2, 1, 1, 4, 2, 5, 2};
        private final int[] lows = {60, 53, 48, 40};
        private final int[] highs = {81, 74, 69, 62};

        private Score() {
            clearFrom(0);
        }

        private void clearFrom(int place) {
            for (int i = place; i < MOST_PLACES; i++) {
                for (int voice = 0; voice < VOICES; voice++) {
                    pitches[i * VOICES + voice] = NONE;
                }
                figures[i] = NONE;
                inversions[i] = NONE;
                fermatas[i] = false;
            }
        }

        private int givenNotes() {
            int notes = 0;
            for (int pitch : pitches) {
                if (pitch != NONE) {
                    notes++;
                }
            }
            return notes;
        }

        // A given note outside the range leaves low above high: no pitch keeps rules 1 and 2.
        private int lowAt(int voice, int place) {
            int pitch = pitches[place * VOICES + voice];
            return pitch == NONE ? lows[voice] : Math.max(lows[voice], pitch);
        }

        private int highAt(int voice, int place) {
            int pitch = pitches[place * VOICES + voice];
            return pitch == NONE ? highs[voice] : Math.min(highs[voice], pitch);
        }

        private boolean isLast(int place) {
            return place == placeCount - 1;
        }

        private int figuredChords(int place) {
            int figure = figures[place];
            return figure == NONE ? styleChords : styleChords & (1 << figure);
        }
    }

    /** The chords in the key, and the grammar by which they follow one another. */
    private static final class Harmony {
        private static final int BARRED = -1;
        private static final int TONIC = 0, SUBDOMINANT = 1, DOMINANT = 2, APPLIED = 3;
        private static final int MAJOR_SCALE = 0b101010110101, MINOR_SCALE = 0b100110101101;
        // A packed chord has four bits: rows of sixteen keep every one of them inside.
        private static final int CHORD_ROOM = 16;
        private static final int[] FUNCTIONS = {
            TONIC, SUBDOMINANT, TONIC, SUBDOMINANT, DOMINANT, TONIC, DOMINANT, DOMINANT, SUBDOMINANT,
            APPLIED, APPLIED, APPLIED, APPLIED
        };
        private static final int[] MAJOR = {
            0, 4, 7, NONE,
            2, 5, 9, NONE,
            4, 7, 11, NONE,
            5, 9, 0, NONE,
            7, 11, 2, NONE,
            9, 0, 4, NONE,
            11, 2, 5, NONE,
            7, 11, 2, 5,
            2, 5, 9, 0,
            2, 6, 9, NONE,
            2, 6, 9, 0,
            4, 8, 11, NONE,
            0, 4, 7, 10
        };
        private static final int[] MINOR = {
            0, 3, 7, NONE,
            2, 5, 8, NONE,
            3, 7, 10, NONE,
            5, 8, 0, NONE,
            7, 11, 2, NONE,
            8, 0, 3, NONE,
            11, 2, 5, NONE,
            7, 11, 2, 5,
            2, 5, 8, 0,
            2, 6, 9, NONE,
            2, 6, 9, 0,
            3, 7, 10, NONE,
            0, 4, 7, 10
        };

        private int tonic;
        private int minor;
        private int leadingClass;
        private final int[] memberClasses = new int[CHORD_ROOM * MEMBERS];
        private final int[] chordsByMember = new int[MEMBERS * OCTAVE];
        private final int[] chordsByClass = new int[OCTAVE];
        private final int[] units = new int[CHORD_ROOM * CHORD_ROOM];

        private Harmony() {
            for (int from = 0; from < CHORDS; from++) {
                for (int to = 0; to < CHORDS; to++) {
                    units[from * CHORD_ROOM + to] = grammar(from, to);
                }
            }
            tune(0, 0);
        }

        private void tune(int newTonic, int newMinor) {
            tonic = newTonic;
            minor = newMinor;
            leadingClass = (tonic + 11) % OCTAVE;
            Arrays.fill(chordsByMember, 0);
            Arrays.fill(chordsByClass, 0);
            for (int chord = 0; chord < CHORDS; chord++) {
                for (int k = 0; k < MEMBERS; k++) {
                    tuneMember(chord, k);
                }
            }
        }

        private void tuneMember(int chord, int k) {
            int at = chord * MEMBERS + k;
            int degree = minor == 1 ? MINOR[at] : MAJOR[at];
            if (degree == NONE) {
                memberClasses[at] = NONE;
                return;
            }
            int pitchClass = (tonic + degree) % OCTAVE;
            memberClasses[at] = pitchClass;
            chordsByMember[k * OCTAVE + pitchClass] |= 1 << chord;
            chordsByClass[pitchClass] |= 1 << chord;
        }

        private static int grammar(int from, int to) {
            if (from == to) {
                return 3;
            }
            switch (FUNCTIONS[from]) {
                case TONIC:
                    return FUNCTIONS[to] == TONIC ? 2 : 0;
                case SUBDOMINANT:
                    return fromSubdominant(from, to);
                case DOMINANT:
                    return fromDominant(from, to);
                default:
                    return fromApplied(from, to);
            }
        }

        private static int fromSubdominant(int from, int to) {
            switch (FUNCTIONS[to]) {
                case TONIC:
                    return from == 3 && to == 0 ? 2 : 4;
                case SUBDOMINANT:
                    return 2;
                case DOMINANT:
                    return 0;
                default:
                    return 1;
            }
        }

        private static int fromDominant(int from, int to) {
            switch (to) {
                case 0:
                    return 0;
                case 5:
                case 12:
                    return 2;
                case 4:
                case 6:
                    return from == 7 ? 3 : 1;
                case 7:
                    return 1;
                default:
                    return BARRED;
            }
        }

        private static int fromApplied(int from, int to) {
            switch (from) {
                case 9:
                    return to == 10 ? 1 : to == 4 || to == 7 ? 0 : BARRED;
                case 10:
                    return to == 4 || to == 7 ? 0 : BARRED;
                case 11:
                    return to == 5 ? 0 : BARRED;
                default:
                    return to == 3 ? 0 : BARRED;
            }
        }

        private int unitsBetween(int fromChord, int toChord) {
            return units[fromChord * CHORD_ROOM + toChord];
        }

        private int memberClass(int chord, int k) {
            return memberClasses[chord * MEMBERS + k];
        }

        /** The chords, as bits, whose member k is of this pitch's class. */
        private int chordsWithMember(int k, int pitch) {
            return chordsByMember[k * OCTAVE + pitch % OCTAVE];
        }

        /** The chords, as bits, that have this pitch's class at all. */
        private int chordsWith(int pitch) {
            return chordsByClass[pitch % OCTAVE];
        }

        /** Whether degree 11 must not be doubled in it. */
        private boolean guardsLeading(int chord) {
            return chord == 4 || chord == 6 || chord == 7 || (chord == 2 && minor == 0);
        }

        private boolean inScale(int pitch) {
            int degree = Math.floorMod(pitch - tonic, OCTAVE);
            int scale = minor == 1 ? MINOR_SCALE : MAJOR_SCALE;
            return ((scale >> degree) & 1) == 1;
        }

        private int timesMember(int code, int k) {
            int pitchClass = memberClass(Code.chordOf(code), k);
            return pitchClass == NONE ? 0 : Code.timesClass(code, pitchClass);
        }
    }

    /**
     * A state in one number: six bits a voice from the soprano down, then four for the chord, so that
     * states of a place compare in the order of rows as their numbers do.
     */
    private static final class Code {
        private static final int PITCH_BITS = 6, CHORD_BITS = 4, PITCH_MASK = 63, CHORD_MASK = 15;

        private static int withVoice(int upperVoices, int pitch) {
            return (upperVoices << PITCH_BITS) | (pitch - LOWEST);
        }

        private static int withChord(int voices, int chord) {
            return (voices << CHORD_BITS) | chord;
        }

        private static int chordOf(int code) {
            return code & CHORD_MASK;
        }

        private static int pitchOf(int code, int voice) {
            return LOWEST + ((code >> (CHORD_BITS + PITCH_BITS * (BASS - voice))) & PITCH_MASK);
        }

        private static void unpack(int code, int[] pitches) {
            int voices = code >> CHORD_BITS;
            for (int voice = BASS; voice >= 0; voice--) {
                pitches[voice] = LOWEST + (voices & PITCH_MASK);
                voices >>= PITCH_BITS;
            }
        }

        private static int timesClass(int code, int pitchClass) {
            int times = 0;
            for (int voices = code >> CHORD_BITS, left = VOICES; left > 0; left--) {
                if ((LOWEST + (voices & PITCH_MASK)) % OCTAVE == pitchClass) {
                    times++;
                }
                voices >>= PITCH_BITS;
            }
            return times;
        }
    }

    /** The states of a place in order; the size counts those above the limit too. */
    private static final class Layer {
        private static final int REACHED = 1, GOES_ON = 2;

        private int size;
        private final int[] codes = new int[MOST_STATES];
        private final int[] marks = new int[MOST_STATES];

        private void add(int code) {
            if (size < MOST_STATES) {
                codes[size] = code;
            }
            size++;
        }

        private int kept() {
            return Math.min(size, MOST_STATES);
        }

        private boolean isMarked(int state, int mark) {
            return (marks[state] & mark) != 0;
        }
    }

    /** Rules 1 to 6: which states may stand at a place. */
    private static final class StateRules {
        private static final int TONIC_CHORD = 1, FERMATA_CHORDS = 1 | 1 << 4 | 1 << 5, ANY_CHORD = -1;
        private static final int[] WIDEST_BELOW = {12, 12, 19};

        private final Score score;
        private final Harmony harmony;
        // Per voice: the lowest and highest pitch at the place (and in the chord) that is looked at,
        // and as bits the members of that chord that it can have.
        private final int[] bottoms = new int[VOICES];
        private final int[] tops = new int[VOICES];
        private final int[] members = new int[VOICES];

        private StateRules(Score score, Harmony harmony) {
            this.score = score;
            this.harmony = harmony;
        }

        // Loops from the soprano down, chords last: the states come out in the order of their codes.
        private void fill(Layer layer, int place) {
            layer.size = 0;
            setLimits(place);
            int chords = score.figuredChords(place) & chordsByRule6(place);
            for (int s = bottoms[0]; s <= tops[0]; s++) {
                int chordsS = chords & harmony.chordsWith(s);
                if (chordsS == 0) {
                    continue;
                }
                int topA = Math.min(tops[1], s);
                for (int a = Math.max(bottoms[1], s - WIDEST_BELOW[0]); a <= topA; a++) {
                    int chordsA = chordsS & harmony.chordsWith(a);
                    if (chordsA == 0) {
                        continue;
                    }
                    int upper = Code.withVoice(Code.withVoice(0, s), a);
                    int topT = Math.min(tops[2], a);
                    for (int t = Math.max(bottoms[2], a - WIDEST_BELOW[1]); t <= topT; t++) {
                        int chordsT = chordsA & harmony.chordsWith(t);
                        if (chordsT != 0) {
                            fillBass(layer, place, Code.withVoice(upper, t), t, chordsT);
                        }
                    }
                }
            }
        }

        private void setLimits(int place) {
            for (int voice = 0; voice < VOICES; voice++) {
                bottoms[voice] = score.lowAt(voice, place);
                tops[voice] = score.highAt(voice, place);
            }
        }

        private void fillBass(Layer layer, int place, int upper, int t, int chords) {
            int topB = Math.min(tops[BASS], t);
            for (int b = Math.max(bottoms[BASS], t - WIDEST_BELOW[2]); b <= topB; b++) {
                int chordsB = chords & bassChords(place, b);
                if (chordsB != 0) {
                    addComplete(layer, Code.withVoice(upper, b), chordsB);
                }
            }
        }

        private void addComplete(Layer layer, int voices, int chords) {
            for (int chord = 0; chord < CHORDS; chord++) {
                if (((chords >> chord) & 1) == 1) {
                    int code = Code.withChord(voices, chord);
                    if (keepsRules4And5(code, chord)) {
                        layer.add(code);
                    }
                }
            }
        }

        private int chordsByRule6(int place) {
            if (score.isLast(place)) {
                return TONIC_CHORD;
            }
            return score.fermatas[place] ? FERMATA_CHORDS : ANY_CHORD;
        }

        private int bassChords(int place, int pitch) {
            int inversion = score.inversions[place];
            int chords = inversion == NONE
                ? harmony.chordsWith(pitch) : harmony.chordsWithMember(inversion, pitch);
            return score.isLast(place) ? chords & harmony.chordsWithMember(ROOT, pitch) : chords;
        }

        private boolean keepsRules4And5(int code, int chord) {
            if (Code.timesClass(code, harmony.memberClass(chord, ROOT)) == 0
                || Code.timesClass(code, harmony.memberClass(chord, THIRD)) == 0) {
                return false;
            }
            int seventh = harmony.memberClass(chord, SEVENTH);
            if (seventh != NONE && Code.timesClass(code, seventh) != 1) {
                return false;
            }
            return !harmony.guardsLeading(chord) || Code.timesClass(code, harmony.leadingClass) < 2;
        }

        /** The rules of 3 to 6, as bits, that bar some state which keeps 1 and 2. */
        private int barring(int place) {
            int chords = score.figuredChords(place);
            int rules = 0;
            for (int chord = 0; chord < CHORDS; chord++) {
                if (((chords >> chord) & 1) == 1 && surveyVoices(place, chord)) {
                    rules |= someBreak3() ? 1 << 3 : 0;
                    rules |= someBreak4(chord) ? 1 << 4 : 0;
                    rules |= someBreak5(chord) ? 1 << 5 : 0;
                    rules |= someBreak6(place, chord) ? 1 << 6 : 0;
                }
            }
            return rules;
        }

        // By rules 1 and 2 each voice picks its pitch alone, so what each can have tells of all states.
        private boolean surveyVoices(int place, int chord) {
            for (int voice = 0; voice < VOICES; voice++) {
                surveyVoice(place, chord, voice);
                if (members[voice] == 0) {
                    return false;
                }
            }
            return true;
        }

        private void surveyVoice(int place, int chord, int voice) {
            members[voice] = 0;
            int top = score.highAt(voice, place);
            for (int pitch = score.lowAt(voice, place); pitch <= top; pitch++) {
                int k = memberAt(chord, pitch % OCTAVE);
                if (k != NONE && maySound(place, voice, k)) {
                    if (members[voice] == 0) {
                        bottoms[voice] = pitch;
                    }
                    tops[voice] = pitch;
                    members[voice] |= 1 << k;
                }
            }
        }

        private int memberAt(int chord, int pitchClass) {
            for (int k = 0; k < MEMBERS; k++) {
                if (harmony.memberClass(chord, k) == pitchClass) {
                    return k;
                }
            }
            return NONE;
        }

        private boolean maySound(int place, int voice, int k) {
            return voice != BASS || score.inversions[place] == NONE || score.inversions[place] == k;
        }

        private boolean someBreak3() {
            for (int voice = 0; voice < BASS; voice++) {
                if (tops[voice + 1] > bottoms[voice]
                    || tops[voice] - bottoms[voice + 1] > WIDEST_BELOW[voice]) {
                    return true;
                }
            }
            return false;
        }

        private boolean someBreak4(int chord) {
            return canMiss(ROOT) || canMiss(THIRD)
                || (harmony.memberClass(chord, SEVENTH) != NONE && canMiss(SEVENTH));
        }

        private boolean canMiss(int k) {
            for (int voice = 0; voice < VOICES; voice++) {
                if (members[voice] == 1 << k) {
                    return false;
                }
            }
            return true;
        }

        private boolean someBreak5(int chord) {
            if (canDouble(SEVENTH)) {
                return true;
            }
            int leading = memberAt(chord, harmony.leadingClass);
            return harmony.guardsLeading(chord) && leading != NONE && canDouble(leading);
        }

        private boolean canDouble(int k) {
            int voicesWith = 0;
            for (int voice = 0; voice < VOICES; voice++) {
                voicesWith += (members[voice] >> k) & 1;
            }
            return voicesWith >= 2;
        }

        private boolean someBreak6(int place, int chord) {
            if (score.fermatas[place] && ((FERMATA_CHORDS >> chord) & 1) == 0) {
                return true;
            }
            return score.isLast(place) && (chord != 0 || members[BASS] != 1 << ROOT);
        }
    }

    /** Rules 7 to 12: which state may follow which. */
    private static final class StepRules {
        // Bit m is set where a voice may move by m: not 6, 10, 11, nor above 12.
        private static final int GOOD_MOVES = 0b1001110111111, WIDEST_MOVE = 12;

        private final Harmony harmony;
        // The step that is looked at, unpacked once, since every rule asks for its pitches.
        private int fromChord;
        private int toChord;
        private final int[] before = new int[VOICES];
        private final int[] after = new int[VOICES];

        private StepRules(Harmony harmony) {
            this.harmony = harmony;
        }

        private boolean allow(int from, int to) {
            lookAt(from, to);
            return !breaks7() && !breaks10() && !breaks9() && !breaks8() && !breaks11() && !breaks12();
        }

        /** All rules that bar this step, as bits. */
        private int barring(int from, int to) {
            lookAt(from, to);
            return (breaks7() ? 1 << 7 : 0)
                | (breaks8() ? 1 << 8 : 0)
                | (breaks9() ? 1 << 9 : 0)
                | (breaks10() ? 1 << 10 : 0)
                | (breaks11() ? 1 << 11 : 0)
                | (breaks12() ? 1 << 12 : 0);
        }

        private void lookAt(int from, int to) {
            fromChord = Code.chordOf(from);
            toChord = Code.chordOf(to);
            Code.unpack(from, before);
            Code.unpack(to, after);
        }

        private boolean breaks7() {
            return harmony.unitsBetween(fromChord, toChord) == Harmony.BARRED;
        }

        private boolean breaks8() {
            for (int upper = 0; upper < BASS; upper++) {
                for (int lower = upper + 1; lower < VOICES; lower++) {
                    int apart = (before[upper] - before[lower]) % OCTAVE;
                    if ((apart == 0 || apart == 7)
                        && apart == (after[upper] - after[lower]) % OCTAVE
                        && before[upper] != after[upper] && before[lower] != after[lower]) {
                        return true;
                    }
                }
            }
            return false;
        }

        private boolean breaks9() {
            for (int voice = 0; voice < VOICES; voice++) {
                int move = Math.abs(after[voice] - before[voice]);
                if (move > WIDEST_MOVE || ((GOOD_MOVES >> move) & 1) == 0) {
                    return true;
                }
            }
            return false;
        }

        private boolean breaks10() {
            for (int voice = 0; voice < BASS; voice++) {
                if (after[voice + 1] > before[voice] || after[voice] < before[voice + 1]) {
                    return true;
                }
            }
            return false;
        }

        private boolean breaks11() {
            if ((fromChord != 4 && fromChord != 6 && fromChord != 7) || (toChord != 0 && toChord != 5)) {
                return false;
            }
            return leadsAstray(SOPRANO) || leadsAstray(BASS);
        }

        private boolean leadsAstray(int voice) {
            return before[voice] % OCTAVE == harmony.leadingClass && after[voice] != before[voice] + 1;
        }

        private boolean breaks12() {
            int seventh = harmony.memberClass(fromChord, SEVENTH);
            if (seventh == NONE || fromChord == toChord) {
                return false;
            }
            for (int voice = 0; voice < VOICES; voice++) {
                int down = before[voice] - after[voice];
                if (before[voice] % OCTAVE == seventh && (down < 0 || down > 2)) {
                    return true;
                }
            }
            return false;
        }
    }

    /** What states and steps cost. */
    private static final class Costs {
        private static final int LARGE_MOVE = 0, BASS_LEAP = 1, NO_FIFTH = 2, INVERSION = 3, GRAMMAR = 4;
        private static final int HIDDEN = 5, THIRD_TWICE = 6, STANDSTILL = 7, UNISON = 8;
        private static final int[] INVERSION_UNITS = {0, 1, 6, 2};

        private final Score score;
        private final Harmony harmony;

        private Costs(Score score, Harmony harmony) {
            this.score = score;
            this.harmony = harmony;
        }

        private int ofState(int code) {
            int total = score.prices[INVERSION] * inversionUnits(code);
            total += score.prices[UNISON] * unisons(code);
            if (harmony.timesMember(code, FIFTH) == 0) {
                total += score.prices[NO_FIFTH];
            }
            int chord = Code.chordOf(code);
            if ((chord == 0 || chord == 3 || chord == 4) && harmony.timesMember(code, THIRD) >= 2) {
                total += score.prices[THIRD_TWICE];
            }
            return total;
        }

        private int inversionUnits(int code) {
            int bassClass = Code.pitchOf(code, BASS) % OCTAVE;
            for (int k = 0; k < MEMBERS; k++) {
                if (harmony.memberClass(Code.chordOf(code), k) == bassClass) {
                    return INVERSION_UNITS[k];
                }
            }
            return 0;
        }

        private static int unisons(int code) {
            int pairs = 0;
            for (int voice = 0; voice < BASS; voice++) {
                if (Code.pitchOf(code, voice) == Code.pitchOf(code, voice + 1)) {
                    pairs++;
                }
            }
            return pairs;
        }

        private int ofStep(int from, int to) {
            int units = harmony.unitsBetween(Code.chordOf(from), Code.chordOf(to));
            int total = score.prices[GRAMMAR] * units;
            for (int voice = 0; voice < BASS; voice++) {
                total += score.prices[LARGE_MOVE] * Math.max(0, Math.abs(move(from, to, voice)) - 2);
            }
            int bassMove = move(from, to, BASS);
            if (Math.abs(bassMove) > 7) {
                total += score.prices[BASS_LEAP];
            }
            int apart = Code.pitchOf(to, SOPRANO) - Code.pitchOf(to, BASS);
            if (isHidden(move(from, to, SOPRANO), bassMove, apart % OCTAVE)) {
                total += score.prices[HIDDEN];
            }
            if (from >> Code.CHORD_BITS == to >> Code.CHORD_BITS) {
                total += score.prices[STANDSTILL];
            }
            return total;
        }

        private static int move(int from, int to, int voice) {
            return Code.pitchOf(to, voice) - Code.pitchOf(from, voice);
        }

        private static boolean isHidden(int sopranoMove, int bassMove, int apart) {
            boolean alike = (sopranoMove > 2 && bassMove > 0) || (sopranoMove < -2 && bassMove < 0);
            return alike && (apart == 0 || apart == 7);
        }
    }

    /** The states of all places, made anew only after something has been told. */
    private static final class Table {
        private final Score score;
        private final StateRules rules;
        private final Layer[] layers = new Layer[MOST_PLACES];
        private boolean fresh;

        private Table(Score score, StateRules rules) {
            this.score = score;
            this.rules = rules;
            for (int i = 0; i < MOST_PLACES; i++) {
                layers[i] = new Layer();
            }
        }

        private void spoil() {
            fresh = false;
        }

        private void prepare() {
            if (fresh) {
                return;
            }
            for (int i = 0; i < score.placeCount; i++) {
                rules.fill(layers[i], i);
            }
            fresh = true;
        }

        private boolean overflows() {
            for (int i = 0; i < score.placeCount; i++) {
                if (layers[i].size > MOST_STATES) {
                    return true;
                }
            }
            return false;
        }
    }

    /** Whether rows go through at all, and what bars them. */
    private static final class Reach {
        private static final int ALL_BARRING = 0b111111 << 7;

        private final Score score;
        private final Table table;
        private final StateRules stateRules;
        private final StepRules stepRules;
        private final Layer trial = new Layer();

        private Reach(Score score, Table table, StateRules stateRules, StepRules stepRules) {
            this.score = score;
            this.table = table;
            this.stateRules = stateRules;
            this.stepRules = stepRules;
        }

        /** The first place to which no row comes, or NONE; marks all states to which rows come. */
        private int firstUnreached() {
            int first = NONE;
            for (int i = 0; i < score.placeCount; i++) {
                boolean some = markReached(i);
                if (!some && first == NONE) {
                    first = i;
                }
            }
            return first;
        }

        private boolean markReached(int place) {
            Layer layer = table.layers[place];
            boolean some = false;
            for (int s = 0; s < layer.kept(); s++) {
                boolean reached = isEntered(place, layer.codes[s]);
                layer.marks[s] = reached ? Layer.REACHED : 0;
                some |= reached;
            }
            return some;
        }

        private boolean isEntered(int place, int code) {
            if (place == 0) {
                return true;
            }
            Layer before = table.layers[place - 1];
            for (int s = 0; s < before.kept(); s++) {
                if (before.isMarked(s, Layer.REACHED) && stepRules.allow(before.codes[s], code)) {
                    return true;
                }
            }
            return false;
        }

        private void markGoingOn() {
            for (int i = score.placeCount - 1; i >= 0; i--) {
                Layer layer = table.layers[i];
                for (int s = 0; s < layer.kept(); s++) {
                    if (goesOn(i, layer.codes[s])) {
                        layer.marks[s] |= Layer.GOES_ON;
                    }
                }
            }
        }

        private boolean goesOn(int place, int code) {
            if (score.isLast(place)) {
                return true;
            }
            Layer after = table.layers[place + 1];
            for (int s = 0; s < after.kept(); s++) {
                if (after.isMarked(s, Layer.GOES_ON) && stepRules.allow(code, after.codes[s])) {
                    return true;
                }
            }
            return false;
        }

        /** What bars the first place to which no row comes; the marks of firstUnreached() stand. */
        private int barringRules(int place) {
            Layer layer = table.layers[place];
            if (layer.size == 0 || place == 0) {
                return stateRules.barring(place);
            }
            Layer before = table.layers[place - 1];
            int rules = 0;
            for (int s = 0; s < before.kept() && rules != ALL_BARRING; s++) {
                if (before.isMarked(s, Layer.REACHED)) {
                    rules |= barringSteps(before.codes[s], layer);
                }
            }
            return rules;
        }

        private int barringSteps(int from, Layer layer) {
            int rules = 0;
            for (int s = 0; s < layer.kept() && rules != ALL_BARRING; s++) {
                rules |= stepRules.barring(from, layer.codes[s]);
            }
            return rules;
        }

        /** The first given note without which there is a row; the marks of firstUnreached() stand. */
        private int noteToGiveWay() {
            markGoingOn();
            for (int number = 0; number < score.placeCount * VOICES; number++) {
                int pitch = score.pitches[number];
                if (pitch == NONE) {
                    continue;
                }
                int place = number / VOICES;
                score.pitches[number] = NONE;
                stateRules.fill(trial, place);
                score.pitches[number] = pitch;
                if (trial.size > MOST_STATES) {
                    return TOO_MANY;
                }
                if (trialJoins(place)) {
                    return number;
                }
            }
            return NONE;
        }

        private boolean trialJoins(int place) {
            for (int s = 0; s < trial.kept(); s++) {
                if (isEntered(place, trial.codes[s]) && goesOn(place, trial.codes[s])) {
                    return true;
                }
            }
            return false;
        }
    }

    /** The first rows in order, from the last place to the first, with a beam or without. */
    private static final class RowSearch {
        private static final int EMPTY = -1, END = 0;

        private final Score score;
        private final Table table;
        private final StepRules steps;
        private final Costs costs;
        // Each state has up to four rests, the first in order first: their sums, and as a link the
        // next state times four with the number of its rest.
        private final int[][] links = new int[MOST_PLACES][MOST_STATES * MOST_ROWS];
        private int[] sums = new int[MOST_STATES * MOST_ROWS];
        private int[] laterSums = new int[MOST_STATES * MOST_ROWS];
        private final int[] alive = new int[MOST_STATES];
        private int aliveCount;
        private final int[] beamStates = new int[WIDEST_BEAM];
        private final int[] rowLinks = new int[MOST_ROWS];
        private final int[] rowSums = new int[MOST_ROWS];
        private final int[] rowCodes = new int[MOST_ROWS * MOST_PLACES];
        private int rowCount;
        private boolean leftOut;

        private RowSearch(Score score, Table table, StepRules steps, Costs costs) {
            this.score = score;
            this.table = table;
            this.steps = steps;
            this.costs = costs;
        }

        private void forget() {
            rowCount = 0;
            leftOut = false;
        }

        private int codeAt(int k, int place) {
            return rowCodes[k * MOST_PLACES + place];
        }

        private void run(int beam) {
            forget();
            for (int i = score.placeCount - 1; i >= 0; i--) {
                int[] spare = laterSums;
                laterSums = sums;
                sums = spare;
                findRests(i);
                if (beam > 0) {
                    narrow(i, beam);
                }
                listAlive(i);
            }
            gatherRows();
            traceRows();
        }

        private void findRests(int place) {
            Layer layer = table.layers[place];
            int[] own = links[place];
            Arrays.fill(own, EMPTY);
            for (int s = 0; s < layer.kept(); s++) {
                int stateCost = costs.ofState(layer.codes[s]);
                if (score.isLast(place)) {
                    insert(sums, own, s * MOST_ROWS, stateCost, END);
                } else {
                    linkOnward(place, s, stateCost);
                }
            }
        }

        // The next states come in their order, so of equal sums the one met first stays before.
        private void linkOnward(int place, int s, int stateCost) {
            int code = table.layers[place].codes[s];
            Layer after = table.layers[place + 1];
            for (int n = 0; n < aliveCount; n++) {
                int next = alive[n];
                if (steps.allow(code, after.codes[next])) {
                    int cost = stateCost + costs.ofStep(code, after.codes[next]);
                    insertRests(place, s, next, cost);
                }
            }
        }

        private void insertRests(int place, int s, int next, int cost) {
            for (int r = 0; r < MOST_ROWS; r++) {
                int link = next * MOST_ROWS + r;
                if (links[place + 1][link] == EMPTY
                    || !insert(sums, links[place], s * MOST_ROWS, cost + laterSums[link], link)) {
                    return;
                }
            }
        }

        private static boolean insert(int[] sumRow, int[] linkRow, int first, int total, int link) {
            int at = first + MOST_ROWS - 1;
            if (linkRow[at] != EMPTY && sumRow[at] <= total) {
                return false;
            }
            while (at > first && (linkRow[at - 1] == EMPTY || sumRow[at - 1] > total)) {
                sumRow[at] = sumRow[at - 1];
                linkRow[at] = linkRow[at - 1];
                at--;
            }
            sumRow[at] = total;
            linkRow[at] = link;
            return true;
        }

        // Two states of one place differ at once, so their rests are in order by sum, then by state.
        private void narrow(int place, int beam) {
            int[] own = links[place];
            int kept = 0;
            for (int s = 0; s < table.layers[place].kept(); s++) {
                if (own[s * MOST_ROWS] != EMPTY) {
                    if (kept < beam) {
                        kept++;
                        sortIn(s, kept - 1);
                    } else {
                        leftOut = true;
                        dropWorst(own, s, beam);
                    }
                }
            }
        }

        private void dropWorst(int[] own, int s, int beam) {
            int worst = beamStates[beam - 1];
            if (sums[s * MOST_ROWS] < sums[worst * MOST_ROWS]) {
                own[worst * MOST_ROWS] = EMPTY;
                sortIn(s, beam - 1);
            } else {
                own[s * MOST_ROWS] = EMPTY;
            }
        }

        private void sortIn(int s, int last) {
            int at = last;
            while (at > 0 && sums[beamStates[at - 1] * MOST_ROWS] > sums[s * MOST_ROWS]) {
                beamStates[at] = beamStates[at - 1];
                at--;
            }
            beamStates[at] = s;
        }

        private void listAlive(int place) {
            aliveCount = 0;
            for (int s = 0; s < table.layers[place].kept(); s++) {
                if (links[place][s * MOST_ROWS] != EMPTY) {
                    alive[aliveCount] = s;
                    aliveCount++;
                }
            }
        }

        private void gatherRows() {
            Arrays.fill(rowLinks, EMPTY);
            for (int n = 0; n < aliveCount; n++) {
                for (int r = 0; r < MOST_ROWS; r++) {
                    int link = alive[n] * MOST_ROWS + r;
                    if (links[0][link] != EMPTY) {
                        insert(rowSums, rowLinks, 0, sums[link], link);
                    }
                }
            }
        }

        private void traceRows() {
            for (int k = 0; k < MOST_ROWS && rowLinks[k] != EMPTY; k++) {
                int link = rowLinks[k];
                for (int i = 0; i < score.placeCount; i++) {
                    rowCodes[k * MOST_PLACES + i] = table.layers[i].codes[link / MOST_ROWS];
                    link = links[i][link];
                }
                rowCount++;
            }
        }
    }
}
