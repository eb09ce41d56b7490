/** The boundary cases of the rules by which states stand and steps go, and of what they cost. */
public final class RuleEdgesTest {
    private static final int NONE = ChoraleSearch.NONE;
    private static final int MAJOR = 0, MINOR = 1;

    public static void main(String[] args) {
        chordsOfTheStyle();
        notesOfTheChord();
        rule1();
        rule2Notes();
        rule2Chord();
        rule2Inversion();
        rule3Crossing();
        rule3Apart();
        rule4();
        rule5Leading();
        rule5Sevenths();
        rule6LastPlace();
        rule6Fermata();
        rule7Same();
        rule7FromTonic();
        rule7FromSubdominant();
        rule7FromDominant();
        rule7FromApplied();
        rule8Octaves();
        rule8Fifths();
        rule8EveryPair();
        rule8OneStays();
        rule8OtherDistances();
        rule9();
        rule9Above12();
        rule10Above();
        rule10Below();
        rule11();
        rule11OtherChords();
        rule11OtherVoices();
        rule12();
        rule12SameChord();
        firstCosts();
        cost0();
        cost1();
        cost2();
        cost3();
        cost4();
        cost5();
        cost5NotAlike();
        cost5InOtherKeys();
        cost6();
        cost7();
        cost8();
        sumOfAll();
        Due.end();
    }

    private static int[] v(int s, int a, int t, int b) {
        return Setting.v(s, a, t, b);
    }

    /** Whether these notes may stand as this chord at a place that is not the last, and what bars them. */
    private static void stands(String what, int minor, int chord, int[] notes, int rules) {
        ChoraleSearch x = Setting.wide(2);
        x.key(0, minor);
        Setting.put(x, 0, chord, notes);
        Due.is(what + ": states", x.states(0), rules == 0 ? 1 : 0);
        if (rules != 0) {
            Due.is(what + ": the place", x.blocked(0), 0);
            Due.is(what + ": the rules", x.blocked(2), rules);
        }
    }

    private static void chordsOfTheStyle() {
        Due.sentence("2: a CHORD that the style has, and a PITCH of each VOICE, whose CLASSES are in it");
        ChoraleSearch x = Setting.fresh(2);
        Setting.giveAll(x, 0, v(72, 67, 64, 48));
        Due.is("states(0): I", x.states(0), 1);
        x.style(0, false);
        Due.is("states(0): the style lacks it", x.states(0), 0);
        Due.is("blocked(2): no state at all", x.blocked(2), 0);
        x.style(0, true);
        for (int voice = 0; voice < 4; voice++) {
            int had = x.given(voice, 0, 61);
            Due.is("states(0): voice " + voice + " is not in it", x.states(0), 0);
            Due.is("blocked(2): no state at all", x.blocked(2), 0);
            x.given(voice, 0, had);
        }
        Setting.styleOnly(x, 1, 8);
        Setting.giveAll(x, 0, v(69, 65, 62, 50));
        Due.is("states(0): II, but no II SEVENTH without its seventh", x.states(0), 1);
    }

    private static void notesOfTheChord() {
        Due.sentence("2: a PITCH of each VOICE, whose CLASSES are in it: each CLASS, each CHORD");
        for (int chord = 0; chord < 13; chord++) {
            ChoraleSearch x = Setting.fresh(2);
            x.style(chord, true);
            x.figure(0, chord);
            for (int soprano = 65; soprano < 77; soprano++) {
                boolean in = false;
                for (int k = 0; k < 4; k++) {
                    in |= x.member(chord, k) == soprano % 12;
                }
                x.given(0, 0, soprano);
                Due.is("chord " + chord + ", soprano " + soprano, x.states(0) > 0 ? 1 : 0, in ? 1 : 0);
                Due.is("blocked(2): no state at all", x.blocked(2) == 0 ? 1 : 0, in ? 0 : 1);
            }
        }
    }

    private static int standsAsTonic(ChoraleSearch x, int voice, int pitch) {
        x.key(pitch % 12, 0);
        x.given(voice, 0, pitch);
        return x.states(0) > 0 ? 1 : 0;
    }

    private static void rule1() {
        Due.sentence("RULE 1: in its RANGE (at first 60 .. 81, 53 .. 74, 48 .. 69, 40 .. 62)");
        int[][] ranges = {{60, 81}, {53, 74}, {48, 69}, {40, 62}};
        for (int voice = 0; voice < 4; voice++) {
            for (int end = 0; end < 2; end++) {
                ChoraleSearch x = Setting.fresh(2);
                x.figure(0, 0);
                int inside = ranges[voice][end];
                int outside = end == 0 ? inside - 1 : inside + 1;
                Due.is("voice " + voice + " at " + inside, standsAsTonic(x, voice, inside), 1);
                Due.is("voice " + voice + " at " + outside, standsAsTonic(x, voice, outside), 0);
                Due.is("blocked(0)", x.blocked(0), 0);
                Due.is("blocked(2): 1 is not among 3 to 6", x.blocked(2), 0);
                x.range(voice, Math.min(inside, outside), Math.max(inside, outside));
                Due.is("voice " + voice + " at " + outside + " in a wider range", x.states(0) > 0 ? 1 : 0, 1);
            }
        }
    }

    private static void rule2Notes() {
        Due.sentence("RULE 2: given notes are as given");
        for (int voice = 0; voice < 4; voice++) {
            ChoraleSearch x = new ChoraleSearch();
            int all = 0;
            for (int pitch = 36; pitch <= 84; pitch++) {
                x.given(voice, 0, pitch);
                all += x.states(0);
            }
            Due.is("the states of each note of voice " + voice + " together", all, 981);
            x.free(voice, 0);
            Due.is("states(0) without it", x.states(0), 981);
        }
    }

    private static void rule2Chord() {
        Due.sentence("RULE 2: the CHORD is as given");
        int[] each = {149, 160, 111, 160, 79, 163, 79, 80, 121, 160, 121, 140, 109};
        ChoraleSearch x = new ChoraleSearch();
        for (int chord = 0; chord < 13; chord++) {
            x.style(chord, true);
            x.figure(0, chord);
            Due.is("states(0) of chord " + chord, x.states(0), each[chord]);
        }
    }

    private static void rule2Inversion() {
        Due.sentence("RULE 2: inversion (the bass has the root: 0, third: 1, fifth: 2, seventh: 3)");
        ChoraleSearch x = new ChoraleSearch();
        int[] basses = {43, 47, 50, 53};
        for (int chord = 4; chord <= 7; chord += 3) {
            x.figure(0, chord);
            for (int member = 0; member < 4; member++) {
                x.given(3, 0, basses[member]);
                for (int k = 0; k < 4; k++) {
                    x.inversion(0, k);
                    int some = k == member && (chord == 7 || k < 3) ? 1 : 0;
                    Due.is("chord " + chord + ", bass " + basses[member] + ", inversion " + k,
                        x.states(0) > 0 ? 1 : 0, some);
                }
                x.inversion(0, -1);
                Due.is("chord " + chord + ", bass " + basses[member] + ", any",
                    x.states(0) > 0 ? 1 : 0, chord == 7 || member < 3 ? 1 : 0);
            }
            x.free(3, 0);
        }
        x.figure(0, 4);
        x.inversion(0, 3);
        Due.is("a triad has no seventh for the bass", x.states(0), 0);
    }

    private static void rule3Crossing() {
        Due.sentence("RULE 3: no VOICE is above the one before it");
        stands("alto on the soprano's pitch", MAJOR, 0, v(64, 64, 60, 55), 0);
        stands("tenor on the alto's pitch", MAJOR, 0, v(67, 64, 64, 60), 0);
        stands("bass on the tenor's pitch", MAJOR, 0, v(67, 64, 60, 60), 0);
        stands("alto 2 above the soprano", MAJOR, 7, v(65, 67, 59, 55), 1 << 3);
        stands("tenor 2 above the alto", MAJOR, 7, v(71, 65, 67, 55), 1 << 3);
        stands("bass 2 above the tenor", MAJOR, 7, v(74, 71, 65, 67), 1 << 3);
    }

    /** No chord has two notes 13 apart: 14 is the next distance that can be. */
    private static void rule3Apart() {
        Due.sentence("RULE 3: soprano and alto, alto and tenor are 12 apart at most, tenor and bass 19");
        stands("soprano and alto 12 apart", MAJOR, 0, v(72, 60, 52, 48), 0);
        stands("soprano and alto 14 apart", MAJOR, 7, v(79, 65, 59, 55), 1 << 3);
        stands("alto and tenor 12 apart", MAJOR, 0, v(72, 64, 52, 48), 0);
        stands("alto and tenor 14 apart", MAJOR, 7, v(71, 67, 53, 43), 1 << 3);
        stands("tenor and bass 19 apart", MAJOR, 0, v(76, 72, 67, 48), 0);
        stands("tenor and bass 20 apart", MAJOR, 0, v(79, 76, 72, 52), 1 << 3);
        stands("soprano and tenor 24 apart", MAJOR, 0, v(76, 64, 52, 48), 0);
    }

    private static void rule4() {
        Due.sentence("RULE 4: root, third, and seventh, if it has one, are there");
        stands("I without its root", MAJOR, 0, v(79, 76, 67, 64), 1 << 4);
        stands("I without its third", MAJOR, 0, v(79, 72, 67, 60), 1 << 4);
        stands("I without its fifth", MAJOR, 0, v(76, 72, 64, 60), 0);
        stands("V SEVENTH without its root", MAJOR, 7, v(77, 74, 71, 62), 1 << 4);
        stands("V SEVENTH without its third", MAJOR, 7, v(77, 74, 67, 55), 1 << 4);
        stands("V SEVENTH without its fifth", MAJOR, 7, v(77, 71, 67, 55), 0);
        stands("V SEVENTH without its seventh", MAJOR, 7, v(74, 71, 67, 55), 1 << 4);
        stands("II SEVENTH without its seventh", MAJOR, 8, v(74, 69, 65, 50), 1 << 4);
        stands("V SEVENTH OF V without its seventh", MAJOR, 10, v(74, 69, 66, 50), 1 << 4);
        stands("V SEVENTH OF IV without its seventh", MAJOR, 12, v(76, 72, 67, 48), 1 << 4);
        stands("every voice on the root", MAJOR, 0, v(72, 60, 60, 48), 1 << 4);
    }

    private static void rule5Leading() {
        Due.sentence("RULE 5: the DEGREE 11 (of 4, 6, 7, and of 2 in major) is not there twice");
        stands("V: once", MAJOR, 4, v(71, 67, 62, 55), 0);
        stands("V: twice", MAJOR, 4, v(71, 67, 59, 55), 1 << 5);
        stands("V: three times", MAJOR, 4, v(83, 71, 59, 55), 1 << 5);
        stands("V of minor: twice", MINOR, 4, v(71, 67, 59, 55), 1 << 5);
        stands("VII: once", MAJOR, 6, v(74, 65, 62, 59), 0);
        stands("VII: twice", MAJOR, 6, v(71, 65, 62, 59), 1 << 5);
        stands("VII of minor: twice", MINOR, 6, v(71, 65, 62, 59), 1 << 5);
        stands("V SEVENTH: twice", MAJOR, 7, v(71, 65, 59, 55), 1 << 5);
        stands("III of major: once", MAJOR, 2, v(71, 67, 64, 52), 0);
        stands("III of major: twice", MAJOR, 2, v(71, 67, 64, 59), 1 << 5);
        stands("III of minor has DEGREE 10: twice", MINOR, 2, v(70, 67, 63, 58), 0);
        stands("V OF VI: DEGREE 11 twice", MAJOR, 11, v(71, 68, 64, 59), 0);
        stands("I: its third twice", MAJOR, 0, v(76, 67, 64, 48), 0);
        ChoraleSearch x = Setting.wide(2);
        x.key(1, 0);
        Setting.put(x, 0, 4, v(72, 68, 60, 56));
        Due.is("V of D flat: DEGREE 11 is CLASS 0, twice", x.blocked(2), 1 << 5);
    }

    private static void rule5Sevenths() {
        Due.sentence("RULE 5: a seventh is not there twice");
        stands("V SEVENTH: once", MAJOR, 7, v(74, 71, 65, 55), 0);
        stands("V SEVENTH: twice", MAJOR, 7, v(77, 71, 65, 55), 1 << 5);
        stands("II SEVENTH: once", MAJOR, 8, v(74, 72, 65, 57), 0);
        stands("II SEVENTH: twice", MAJOR, 8, v(74, 72, 65, 60), 1 << 5);
        stands("V SEVENTH OF V: twice", MAJOR, 10, v(74, 72, 66, 60), 1 << 5);
        stands("V SEVENTH OF IV: twice", MAJOR, 12, v(76, 70, 60, 58), 1 << 5);
        stands("II SEVENTH: three times, so no third", MAJOR, 8, v(74, 72, 60, 48), 1 << 4 | 1 << 5);
    }

    private static void lastPlace(String what, int n, int chord, int[] notes, int rules) {
        ChoraleSearch x = Setting.fresh(n);
        for (int i = 0; i < n - 1; i++) {
            Setting.put(x, i, 0, v(72, 67, 64, 48));
        }
        Setting.put(x, n - 1, chord, notes);
        Due.is(what + ": states", x.states(n - 1), rules == 0 ? 1 : 0);
        Due.is(what + ": the place", x.blocked(0), rules == 0 ? NONE : n - 1);
        Due.is(what + ": the rules", x.blocked(2), rules == 0 ? NONE : rules);
    }

    private static void rule6LastPlace() {
        Due.sentence("RULE 6: the last place: CHORD 0 with its root in the bass");
        for (int n = 1; n <= 16; n += 15) {
            lastPlace(n + " places, I", n, 0, v(72, 67, 64, 48), 0);
            lastPlace(n + " places, its third in the bass", n, 0, v(72, 67, 60, 52), 1 << 6);
            lastPlace(n + " places, its fifth in the bass", n, 0, v(72, 67, 64, 55), 1 << 6);
            lastPlace(n + " places, VI", n, 5, v(72, 69, 64, 57), 1 << 6);
            lastPlace(n + " places, V SEVENTH OF IV", n, 12, v(70, 67, 64, 48), 1 << 6);
        }
        ChoraleSearch x = Setting.fresh(2);
        Setting.put(x, 0, 5, v(72, 64, 60, 57));
        Due.is("states(0): the place before the last is free of it", x.states(0), 1);
    }

    private static void rule6Fermata() {
        Due.sentence("RULE 6: a FERMATA: CHORD 0, 4 or 5");
        ChoraleSearch x = new ChoraleSearch();
        for (int chord = 0; chord < 13; chord++) {
            x.style(chord, true);
            x.figure(0, chord);
            x.fermata(0, false);
            int without = x.states(0);
            x.fermata(0, true);
            boolean may = chord == 0 || chord == 4 || chord == 5;
            Due.is("states(0) of chord " + chord, x.states(0), may ? without : 0);
        }
        x = new ChoraleSearch();
        x.fermata(0, true);
        Due.is("states(0): any inversion", x.states(0), 149 + 79 + 163);
        Due.is("states(1): the place after it", x.states(1), 981);
        x.fermata(3, true);
        Due.is("states(3): at the last place, too", x.states(3), 60);
        x.figure(3, 5);
        Due.is("states(3): CHORD 5 at the last place", x.states(3), 0);
    }

    /** The rules that bar the step between two whole places, as bits; 0: none does. */
    private static int bars(int minor, int from, int[] first, int to, int[] second) {
        ChoraleSearch x = Setting.fresh(3);
        x.key(0, minor);
        Setting.put(x, 0, from, first);
        Setting.put(x, 1, to, second);
        Due.is("the first place stands", x.states(0), 1);
        Due.is("the second place stands", x.states(1), 1);
        return x.blocked(0) == 1 ? x.blocked(2) : 0;
    }

    private static void step(String what, int from, int[] first, int to, int[] second, int rules) {
        Due.is(what, bars(MAJOR, from, first, to, second), rules);
    }

    private static void minorStep(String what, int from, int[] first, int to, int[] second, int rules) {
        Due.is(what, bars(MINOR, from, first, to, second), rules);
    }

    /** Whether rule 7 bars the one chord after the other, whatever their notes. */
    private static int barred(int minor, int from, int to) {
        ChoraleSearch x = Setting.fresh(3);
        x.key(0, minor);
        x.style(from, true);
        x.style(to, true);
        x.figure(0, from);
        x.figure(1, to);
        return x.blocked(0) == 1 ? (x.blocked(2) >> 7) & 1 : 0;
    }

    private static void rule7(int from, int... may) {
        for (int minor = 0; minor < 2; minor++) {
            for (int to = 0; to < 13; to++) {
                boolean goes = false;
                for (int one : may) {
                    goes |= one == to;
                }
                Due.is("from " + from + " to " + to, barred(minor, from, to), goes ? 0 : 1);
            }
        }
    }

    private static void rule7Same() {
        Due.sentence("GRAMMAR: the same chord 3");
        for (int chord = 0; chord < 13; chord++) {
            Due.is("from " + chord + " to itself", barred(MAJOR, chord, chord), 0);
        }
    }

    private static void rule7FromTonic() {
        Due.sentence("GRAMMAR: from T: to T 2, to others 0 (none is barred)");
        for (int from : new int[] {0, 2, 5}) {
            rule7(from, 0, 1, 2, 3, 4, 5, 6, 7, 8, 9, 10, 11, 12);
        }
    }

    private static void rule7FromSubdominant() {
        Due.sentence("GRAMMAR: from S: to D, to S, to T, to APPLIED (none is barred)");
        for (int from : new int[] {1, 3, 8}) {
            rule7(from, 0, 1, 2, 3, 4, 5, 6, 7, 8, 9, 10, 11, 12);
        }
    }

    private static void rule7FromDominant() {
        Due.sentence("GRAMMAR: from D: to 2 barred, to S barred, to APPLIED: 12 2, others barred");
        for (int from : new int[] {4, 6, 7}) {
            rule7(from, 0, 4, 5, 6, 7, 12);
        }
    }

    private static void rule7FromApplied() {
        Due.sentence("GRAMMAR: from APPLIED: to its aim 0, from 9 to 10 1; others barred");
        rule7(9, 9, 10, 4, 7);
        rule7(10, 10, 4, 7);
        rule7(11, 11, 5);
        rule7(12, 12, 3);
    }

    private static void rule8Octaves() {
        Due.sentence("RULE 8: no two VOICES that have both moved are 0 apart (the rest of 12) in both");
        step("12 to 12", 0, v(60, 55, 48, 40), 0, v(64, 55, 52, 48), 1 << 8);
        step("0 to 12", 0, v(60, 60, 48, 40), 0, v(67, 55, 52, 48), 1 << 8);
        step("12 to 0", 0, v(60, 55, 52, 40), 0, v(64, 55, 48, 48), 1 << 8);
        step("12 to 24", 0, v(64, 60, 52, 52), 0, v(72, 60, 52, 48), 1 << 8);
        step("24 to 12", 0, v(64, 55, 48, 40), 0, v(60, 55, 52, 48), 1 << 8);
    }

    private static void rule8Fifths() {
        Due.sentence("RULE 8: nor 7 in both");
        step("7 to 7", 1, v(62, 57, 50, 41), 0, v(64, 55, 48, 48), 1 << 8);
        step("7 to 19", 2, v(67, 59, 52, 52), 0, v(76, 67, 55, 48), 1 << 8);
        step("19 to 7", 2, v(64, 59, 55, 40), 0, v(60, 55, 52, 48), 1 << 8);
    }

    private static void rule8EveryPair() {
        Due.sentence("RULE 8: no two VOICES");
        step("soprano and alto, 0", 0, v(60, 60, 52, 40), 0, v(67, 55, 52, 48), 1 << 8);
        step("soprano and alto, 7", 1, v(69, 62, 53, 41), 0, v(67, 60, 52, 48), 1 << 8);
        step("soprano and tenor, 0", 0, v(60, 55, 48, 40), 0, v(64, 60, 52, 48), 1 << 8);
        step("soprano and tenor, 7", 1, v(69, 62, 62, 53), 0, v(67, 64, 60, 48), 1 << 8);
        step("soprano and bass, 0", 0, v(64, 55, 48, 40), 0, v(60, 60, 52, 48), 1 << 8);
        step("soprano and bass, 7", 0, v(67, 64, 60, 48), 0, v(79, 67, 64, 60), 1 << 8);
        step("alto and tenor, 0", 0, v(60, 55, 55, 40), 0, v(64, 60, 48, 48), 1 << 8);
        step("alto and tenor, 7", 1, v(65, 57, 50, 41), 0, v(64, 55, 48, 48), 1 << 8);
        step("alto and bass, 0", 0, v(60, 55, 52, 43), 0, v(60, 60, 52, 48), 1 << 8);
        step("alto and bass, 7", 1, v(62, 57, 53, 50), 0, v(64, 55, 52, 48), 1 << 8);
        step("tenor and bass, 0", 0, v(60, 55, 52, 40), 0, v(64, 60, 48, 48), 1 << 8);
        step("tenor and bass, 7", 1, v(65, 57, 57, 50), 0, v(64, 60, 55, 48), 1 << 8);
    }

    private static void rule8OneStays() {
        Due.sentence("RULE 8: that have both moved");
        step("the soprano moves, the alto stays: 0 to 12", 0, v(60, 60, 48, 40), 0, v(72, 60, 52, 48), 0);
        step("the soprano moves, the bass stays: 12 to 24", 0, v(60, 55, 52, 48), 0, v(72, 60, 52, 48), 0);
        step("the tenor moves, the bass stays: 0 to 12", 0, v(64, 60, 48, 48), 0, v(64, 60, 60, 48), 0);
        step("the soprano stays, the tenor moves: 19 to 7", 0, v(67, 60, 48, 40), 0, v(67, 64, 60, 48), 0);
        step("the bass moves, the alto stays: 12 to 0", 0, v(64, 60, 60, 48), 0, v(64, 60, 60, 60), 0);
        step("nothing moves: 7, 12 and 19 stay", 0, v(67, 60, 52, 48), 0, v(67, 60, 52, 48), 0);
    }

    private static void rule8OtherDistances() {
        Due.sentence("RULE 8: 0 apart in both, nor 7 in both (and no others)");
        step("5 to 5", 1, v(62, 57, 53, 41), 0, v(60, 55, 52, 48), 0);
        step("6 to 7", 6, v(62, 53, 50, 47), 0, v(60, 55, 52, 48), 0);
        step("0 to 7", 0, v(60, 55, 52, 40), 0, v(64, 60, 55, 48), 0);
        step("7 to 0", 0, v(64, 55, 48, 40), 0, v(64, 64, 52, 48), 0);
    }

    private static void rule9() {
        Due.sentence("RULE 9: no VOICE moves by 6, 10, 11");
        step("soprano 5 up", 0, v(67, 60, 52, 48), 0, v(72, 60, 52, 48), 0);
        step("soprano 6 up", 0, v(60, 55, 48, 40), 9, v(66, 54, 50, 42), 1 << 9);
        step("soprano 7 down", 0, v(67, 55, 52, 48), 0, v(60, 55, 52, 48), 0);
        step("soprano 6 down", 0, v(72, 60, 48, 40), 9, v(66, 57, 50, 42), 1 << 9);
        step("soprano 8 up", 0, v(64, 55, 48, 48), 0, v(72, 60, 52, 48), 0);
        step("soprano 9 up", 0, v(67, 60, 52, 43), 0, v(76, 64, 52, 48), 0);
        step("soprano 9 down", 0, v(76, 64, 52, 48), 0, v(67, 60, 52, 48), 0);
        step("soprano 10 up", 1, v(69, 65, 62, 45), 0, v(79, 67, 64, 48), 1 << 9);
        step("soprano 10 down", 1, v(74, 62, 53, 45), 0, v(64, 60, 48, 48), 1 << 9);
        step("soprano 11 up", 1, v(65, 62, 50, 45), 0, v(76, 64, 55, 48), 1 << 9);
        step("soprano 11 down", 0, v(76, 64, 52, 48), 1, v(65, 62, 57, 45), 1 << 9);
        step("soprano 12 up", 0, v(60, 55, 52, 48), 0, v(72, 60, 52, 48), 0);
        step("soprano 12 down", 0, v(72, 60, 52, 43), 0, v(60, 55, 52, 48), 0);
        step("alto 6 up", 0, v(67, 60, 52, 48), 9, v(66, 66, 54, 50), 1 << 9);
        step("alto 9 up", 0, v(64, 55, 48, 43), 0, v(64, 64, 52, 48), 0);
        step("alto 10 down", 1, v(77, 74, 62, 45), 0, v(76, 64, 60, 48), 1 << 9);
        step("alto 11 up", 1, v(65, 53, 50, 45), 0, v(67, 64, 52, 48), 1 << 9);
        step("alto 12 down", 0, v(72, 67, 55, 52), 0, v(67, 55, 52, 48), 0);
        step("tenor 6 down", 0, v(64, 60, 60, 43), 9, v(62, 62, 54, 42), 1 << 9);
        step("tenor 9 down", 0, v(64, 64, 64, 48), 0, v(64, 64, 55, 48), 0);
        step("tenor 10 up", 1, v(65, 62, 50, 45), 0, v(64, 64, 60, 48), 1 << 9);
        step("tenor 11 down", 2, v(64, 64, 59, 43), 0, v(64, 60, 48, 48), 1 << 9);
        step("tenor 12 up", 0, v(64, 60, 48, 43), 0, v(64, 60, 60, 48), 0);
        step("bass 6 down", 0, v(60, 55, 52, 48), 9, v(62, 54, 50, 42), 1 << 9);
        step("bass 9 down", 1, v(65, 62, 62, 57), 0, v(64, 64, 60, 48), 0);
        step("bass 10 up", 1, v(65, 65, 62, 50), 0, v(67, 64, 64, 60), 1 << 9);
        step("bass 11 down", 2, v(67, 64, 64, 59), 0, v(64, 64, 60, 48), 1 << 9);
        step("bass 12 up", 0, v(64, 60, 60, 48), 0, v(64, 60, 60, 60), 0);
    }

    /** Soprano and alto cannot go so far without breaking rule 10 as well. */
    private static void rule9Above12() {
        Due.sentence("RULE 9: or above 12");
        step("soprano 13 up", 0, v(64, 60, 52, 48), 1, v(77, 65, 57, 50), 1 << 9 | 1 << 10);
        step("soprano 14 down", 0, v(76, 67, 55, 48), 1, v(62, 62, 53, 45), 1 << 9 | 1 << 10);
        step("alto 13 up", 1, v(62, 53, 53, 45), 9, v(66, 66, 57, 50), 1 << 9 | 1 << 10);
        step("tenor 13 up", 0, v(64, 60, 52, 48), 1, v(69, 65, 65, 50), 1 << 9 | 1 << 10);
        step("bass 13 up", 2, v(67, 64, 64, 47), 0, v(64, 64, 60, 60), 1 << 9);
        step("bass 13 down", 0, v(64, 64, 60, 60), 2, v(67, 64, 64, 47), 1 << 9);
        step("bass 14 down", 1, v(65, 65, 62, 62), 0, v(67, 64, 64, 48), 1 << 9);
        step("bass 15 up", 0, v(60, 55, 55, 40), 2, v(64, 55, 55, 55), 1 << 9);
    }

    private static void rule10Above() {
        Due.sentence("RULE 10: none goes above what the one before it had");
        step("the alto to what the soprano had", 0, v(60, 55, 48, 40), 0, v(60, 60, 52, 48), 0);
        step("the alto 1 above it", 2, v(71, 64, 52, 43), 0, v(72, 72, 64, 48), 1 << 10);
        step("the tenor to what the alto had", 0, v(60, 55, 48, 40), 0, v(64, 55, 55, 48), 0);
        step("the tenor 1 above it", 2, v(64, 59, 52, 43), 0, v(64, 60, 60, 48), 1 << 10);
        step("the bass to what the tenor had", 0, v(60, 55, 48, 40), 0, v(60, 55, 52, 48), 0);
        step("the bass 1 above it", 2, v(64, 64, 59, 55), 0, v(64, 60, 60, 60), 1 << 10);
    }

    private static void rule10Below() {
        Due.sentence("RULE 10: nor below what the one behind it had");
        step("the soprano to what the alto had", 0, v(64, 60, 48, 43), 0, v(60, 55, 52, 48), 0);
        step("the soprano 1 below it", 1, v(65, 65, 53, 50), 0, v(64, 60, 55, 48), 1 << 10);
        step("the alto to what the tenor had", 0, v(60, 60, 55, 40), 0, v(60, 55, 52, 48), 0);
        step("the alto 1 below it", 1, v(65, 65, 65, 50), 0, v(67, 64, 60, 48), 1 << 10);
        step("the tenor to what the bass had", 0, v(60, 55, 52, 48), 0, v(64, 55, 48, 48), 0);
        step("the tenor 1 below it", 1, v(62, 53, 53, 53), 0, v(60, 55, 52, 48), 1 << 10);
    }

    private static void rule11() {
        Due.sentence("RULE 11: from CHORD 4, 6, 7 to 0 or 5: soprano and bass, if they have DEGREE 11, go 1 up");
        step("4 to 0, soprano up", 4, v(71, 62, 50, 43), 0, v(72, 60, 52, 48), 0);
        step("4 to 0, soprano down", 4, v(71, 62, 50, 43), 0, v(67, 60, 52, 48), 1 << 11);
        step("4 to 5, soprano up", 4, v(71, 62, 50, 43), 5, v(72, 60, 57, 40), 0);
        step("4 to 5, soprano down", 4, v(71, 62, 50, 43), 5, v(64, 57, 48, 45), 1 << 11);
        step("6 to 0, soprano up", 6, v(71, 62, 50, 41), 0, v(72, 60, 52, 48), 0);
        step("6 to 0, soprano down", 6, v(71, 62, 50, 41), 0, v(64, 55, 52, 48), 1 << 11);
        step("6 to 5, soprano down", 6, v(71, 62, 50, 41), 5, v(64, 57, 48, 45), 1 << 11);
        step("7 to 0, soprano up", 7, v(71, 62, 53, 43), 0, v(72, 60, 52, 48), 0);
        step("7 to 0, soprano down", 7, v(71, 62, 53, 43), 0, v(64, 60, 52, 48), 1 << 11);
        step("7 to 5, soprano down", 7, v(71, 62, 53, 43), 5, v(64, 60, 52, 45), 1 << 11);
        step("4 to 0, bass up", 4, v(62, 55, 50, 47), 0, v(60, 55, 52, 48), 0);
        step("4 to 5, bass up", 4, v(62, 55, 50, 47), 5, v(60, 57, 52, 48), 0);
        step("4 to 5, bass down", 4, v(62, 55, 50, 47), 5, v(60, 57, 52, 45), 1 << 11);
        step("6 to 5, bass down", 6, v(62, 53, 50, 47), 5, v(60, 57, 52, 45), 1 << 11);
        step("7 to 5, bass down", 7, v(62, 55, 53, 47), 5, v(60, 57, 52, 45), 1 << 11);
        minorStep("4 to 0 of minor, soprano up", 4, v(71, 62, 50, 43), 0, v(72, 60, 51, 48), 0);
        minorStep("4 to 0 of minor, soprano down", 4, v(71, 62, 50, 43), 0, v(67, 60, 51, 48), 1 << 11);
    }

    private static void rule11OtherChords() {
        Due.sentence("RULE 11: from CHORD 4, 6, 7 to 0 or 5 (and no others)");
        step("2 to 0", 2, v(71, 64, 52, 43), 0, v(64, 55, 48, 48), 0);
        step("2 to 5", 2, v(71, 64, 52, 43), 5, v(64, 60, 52, 45), 0);
        step("2 to 5, bass", 2, v(64, 55, 52, 47), 5, v(60, 57, 52, 40), 0);
        step("11 to 5", 11, v(71, 59, 52, 44), 5, v(64, 57, 48, 40), 0);
        step("4 to 4", 4, v(71, 62, 50, 43), 4, v(62, 55, 50, 47), 0);
        step("4 to 6", 4, v(71, 62, 50, 43), 6, v(62, 53, 50, 47), 0);
        step("4 to 7", 4, v(71, 62, 50, 43), 7, v(62, 55, 53, 47), 0);
        step("6 to 7", 6, v(71, 62, 50, 41), 7, v(62, 59, 53, 43), 0);
        step("7 to 12", 7, v(62, 55, 53, 47), 12, v(60, 55, 52, 46), 0);
    }

    private static void rule11OtherVoices() {
        Due.sentence("RULE 11: soprano and bass (and no others)");
        step("4 to 0, alto down", 4, v(62, 59, 50, 43), 0, v(60, 55, 52, 48), 0);
        step("4 to 5, alto down", 4, v(62, 59, 50, 43), 5, v(60, 57, 52, 40), 0);
        step("4 to 0, tenor down", 4, v(62, 62, 59, 43), 0, v(64, 60, 52, 48), 0);
        step("7 to 0, tenor down", 7, v(65, 62, 59, 43), 0, v(64, 60, 52, 48), 0);
        step("6 to 5, tenor down", 6, v(62, 62, 59, 41), 5, v(64, 60, 52, 45), 0);
    }

    private static void rule12() {
        Due.sentence("RULE 12: a VOICE that has a seventh stays, or goes 1 or 2 down");
        step("7: stays", 7, v(62, 55, 53, 47), 6, v(62, 53, 53, 47), 0);
        step("7: 1 down", 7, v(62, 55, 53, 47), 0, v(60, 55, 52, 48), 0);
        minorStep("7: 2 down", 7, v(62, 55, 53, 47), 0, v(60, 55, 51, 48), 0);
        step("7: 3 down", 7, v(62, 55, 53, 47), 4, v(62, 55, 50, 47), 1 << 12);
        step("7: 5 down", 7, v(62, 55, 53, 47), 0, v(64, 55, 48, 48), 1 << 12);
        step("7: 2 up", 7, v(62, 55, 53, 47), 0, v(64, 55, 55, 48), 1 << 12);
        minorStep("7: 3 up", 7, v(62, 59, 53, 43), 5, v(60, 56, 56, 44), 1 << 12);
        step("8: stays", 8, v(60, 53, 50, 41), 0, v(60, 55, 52, 48), 0);
        step("8: 1 down", 8, v(62, 53, 53, 48), 2, v(64, 55, 52, 47), 0);
        step("8: 2 down", 8, v(62, 53, 50, 48), 12, v(60, 55, 52, 46), 0);
        step("8: 3 down", 8, v(62, 53, 50, 48), 1, v(62, 53, 50, 45), 1 << 12);
        step("8: 2 up", 8, v(60, 53, 50, 41), 1, v(62, 53, 50, 41), 1 << 12);
        step("10: 1 down", 10, v(62, 54, 50, 48), 4, v(62, 55, 50, 47), 0);
        step("10: 2 up", 10, v(60, 54, 50, 42), 4, v(62, 55, 50, 47), 1 << 12);
        step("12: 1 down", 12, v(60, 55, 52, 46), 3, v(60, 53, 48, 45), 0);
        minorStep("12: 2 down", 12, v(60, 55, 52, 46), 3, v(60, 53, 48, 44), 0);
        step("12: 5 down", 12, v(60, 55, 52, 46), 3, v(60, 57, 48, 41), 1 << 12);
        step("12: 2 up", 12, v(60, 55, 52, 46), 3, v(60, 57, 53, 48), 1 << 12);
    }

    private static void rule12SameChord() {
        Due.sentence("RULE 12: (or the CHORD is the same)");
        step("7: 3 down", 7, v(62, 55, 53, 47), 7, v(65, 55, 50, 47), 0);
        step("7: 12 up", 7, v(62, 59, 55, 41), 7, v(62, 59, 55, 53), 0);
        step("8: 5 up", 8, v(60, 53, 50, 41), 8, v(65, 53, 50, 48), 0);
        step("10: 3 down", 10, v(62, 54, 50, 48), 10, v(60, 54, 50, 45), 0);
        step("12: 9 up", 12, v(64, 60, 55, 46), 12, v(64, 60, 58, 55), 0);
    }

    /** How often a kind counts in a row of two whole places, the second one I. */
    private static void counts(String what, int kind, int chord, int[] first, int[] last, int times) {
        countsIn(0, MAJOR, what, kind, new int[][] {{chord}, first, last}, times);
    }

    private static void countsIn(int tonic, int minor, String what, int kind, int[][] row, int times) {
        ChoraleSearch x = Setting.fresh(2);
        x.key(tonic, minor);
        Setting.put(x, 0, row[0][0], row[1]);
        Setting.put(x, 1, 0, row[2]);
        Setting.costOnly(x, kind);
        Due.is(what + ": rows", x.solve(0), 1);
        Due.is(what + ": times", x.sum(0), times);
        x.cost(kind, 1000);
        x.solve(0);
        Due.is(what + ": times 1000", x.sum(0), times * 1000);
    }

    private static void firstCosts() {
        Due.sentence("COSTS (kind, what it counts, at first)");
        ChoraleSearch x = new ChoraleSearch();
        int[] first = {1, 2, 2, 1, 1, 4, 2, 5, 2};
        for (int kind = 0; kind < 9; kind++) {
            Due.is("cost(" + kind + ", 0)", x.cost(kind, 0), first[kind]);
        }
    }

    private static void cost0() {
        Due.sentence("COST 0: semitones above 2 that soprano, alto, tenor move (each)");
        counts("soprano 2 up", 0, 1, v(62, 53, 50, 41), v(64, 55, 48, 48), 0);
        counts("soprano 3 up", 0, 0, v(64, 55, 52, 48), v(67, 55, 52, 48), 1);
        counts("soprano 2 down", 0, 1, v(62, 53, 50, 41), v(60, 55, 52, 48), 0);
        counts("soprano 3 down", 0, 0, v(67, 55, 48, 40), v(64, 55, 48, 48), 1);
        counts("soprano 12 up", 0, 0, v(60, 60, 52, 40), v(72, 60, 52, 48), 10);
        counts("alto 3 up", 0, 0, v(67, 64, 64, 48), v(67, 67, 64, 48), 1);
        counts("alto 3 down", 0, 0, v(67, 67, 60, 52), v(67, 64, 60, 48), 1);
        counts("tenor 3 up", 0, 0, v(64, 55, 52, 48), v(64, 55, 55, 48), 1);
        counts("tenor 12 down", 0, 0, v(64, 60, 60, 43), v(64, 60, 48, 48), 10);
        counts("alto 3 and tenor 4 down", 0, 4, v(74, 67, 59, 55), v(72, 64, 55, 48), 3);
        counts("the bass alone, by 8", 0, 0, v(60, 55, 52, 40), v(60, 55, 52, 48), 0);
    }

    private static void cost1() {
        Due.sentence("COST 1: the bass moves above 7");
        counts("by 5", 1, 0, v(60, 55, 52, 43), v(60, 55, 52, 48), 0);
        counts("7 up", 1, 1, v(62, 53, 50, 41), v(60, 55, 52, 48), 0);
        counts("7 down", 1, 0, v(64, 60, 55, 55), v(64, 55, 55, 48), 0);
        counts("8 up", 1, 0, v(60, 55, 48, 40), v(60, 55, 52, 48), 1);
        counts("9 down", 1, 1, v(65, 62, 62, 57), v(64, 64, 60, 48), 1);
        counts("12 up", 1, 0, v(64, 60, 60, 48), v(64, 60, 60, 60), 1);
        counts("the soprano alone, by 12", 1, 0, v(60, 60, 52, 48), v(72, 60, 52, 48), 0);
    }

    private static void cost2() {
        Due.sentence("COST 2: a STATE without a fifth");
        counts("I with its fifth", 2, 0, v(60, 55, 52, 48), v(60, 55, 52, 48), 0);
        counts("I without it", 2, 0, v(60, 60, 48, 40), v(60, 55, 52, 48), 1);
        counts("both without it", 2, 0, v(64, 60, 60, 48), v(64, 60, 60, 60), 2);
        counts("V without it", 2, 4, v(67, 55, 55, 47), v(60, 55, 52, 48), 1);
        counts("V SEVENTH without it", 2, 7, v(65, 55, 55, 47), v(64, 55, 48, 48), 1);
        counts("V SEVENTH with it", 2, 7, v(62, 55, 53, 47), v(60, 55, 52, 48), 0);
    }

    private static void cost3() {
        Due.sentence("COST 3: units of the inversion (1: 1, 2: 6, 3: 2)");
        counts("the root in the bass", 3, 4, v(62, 59, 50, 43), v(60, 55, 52, 48), 0);
        counts("the third", 3, 4, v(62, 55, 50, 47), v(60, 55, 52, 48), 1);
        counts("the fifth", 3, 4, v(62, 59, 55, 50), v(64, 55, 52, 48), 6);
        counts("the seventh", 3, 8, v(62, 53, 50, 48), v(60, 55, 52, 48), 2);
    }

    private static void cost4() {
        Due.sentence("COST 4: units of the GRAMMAR");
        counts("the same chord", 4, 0, v(60, 55, 52, 48), v(60, 55, 52, 48), 3);
        counts("from T to T", 4, 5, v(60, 57, 48, 45), v(60, 55, 52, 48), 2);
        counts("from S to T", 4, 1, v(62, 53, 50, 41), v(60, 55, 52, 48), 4);
        counts("from II SEVENTH to T", 4, 8, v(60, 53, 50, 41), v(60, 55, 52, 48), 4);
        counts("from 3 to 0", 4, 3, v(60, 57, 48, 41), v(60, 55, 52, 48), 2);
        counts("from D to 0", 4, 4, v(62, 59, 50, 43), v(60, 55, 52, 48), 0);
    }

    private static void cost5() {
        Due.sentence("COST 5: soprano and bass move alike into 0 or 7 apart, the soprano by more than 2");
        counts("by 3 up into 12 apart", 5, 1, v(69, 62, 62, 53), v(72, 64, 60, 60), 1);
        counts("by 1 up into 12 apart", 5, 2, v(71, 64, 64, 55), v(72, 64, 60, 60), 0);
        counts("by 3 up into 24 apart", 5, 1, v(69, 57, 50, 41), v(72, 64, 52, 48), 1);
        counts("by 4 down into 24 apart", 5, 0, v(76, 64, 60, 55), v(72, 64, 55, 48), 1);
        counts("by 2 down into 24 apart", 5, 1, v(74, 62, 53, 53), v(72, 64, 55, 48), 0);
        counts("by 5 up, the bass by 1", 5, 4, v(62, 55, 50, 47), v(67, 55, 52, 48), 1);
        counts("by 3 up into 7 apart", 5, 0, v(64, 60, 60, 48), v(67, 64, 60, 60), 1);
        counts("by 2 up into 7 apart", 5, 1, v(65, 62, 62, 53), v(67, 64, 60, 60), 0);
        counts("by 3 up into 19 apart", 5, 0, v(64, 55, 48, 40), v(67, 55, 52, 48), 1);
        counts("by 2 up into 19 apart", 5, 1, v(65, 53, 50, 45), v(67, 60, 52, 48), 0);
        counts("by 4 down into 19 apart", 5, 2, v(71, 64, 55, 55), v(67, 64, 55, 48), 1);
        counts("by 3 up into 31 apart", 5, 0, v(76, 64, 60, 43), v(79, 72, 64, 48), 1);
        counts("by 4 up into 16 apart", 5, 0, v(60, 55, 48, 40), v(64, 55, 48, 48), 0);
        counts("by 3 down into 28 apart", 5, 0, v(79, 67, 60, 52), v(76, 67, 55, 48), 0);
    }

    private static void cost5NotAlike() {
        Due.sentence("COST 5: move alike (both up, or both down)");
        counts("up and down into 12 apart", 5, 1, v(65, 65, 62, 62), v(72, 64, 64, 60), 0);
        counts("down and up into 12 apart", 5, 0, v(64, 55, 48, 43), v(60, 55, 52, 48), 0);
        counts("the soprano up, the bass stays", 5, 0, v(60, 55, 52, 48), v(72, 60, 52, 48), 0);
        counts("the soprano down, the bass stays", 5, 0, v(72, 60, 52, 48), v(67, 60, 52, 48), 0);
        counts("the soprano stays", 5, 0, v(72, 60, 48, 40), v(72, 60, 52, 48), 0);
        counts("up and down into 19 apart", 5, 0, v(60, 55, 52, 52), v(67, 55, 52, 48), 0);
    }

    private static void cost5InOtherKeys() {
        Due.sentence("COST 5: into 0 or 7 apart (whatever the TONIC)");
        countsIn(2, MAJOR, "into 24 apart in D major", 5,
            new int[][] {{1}, v(71, 59, 52, 43), v(74, 66, 54, 50)}, 1);
        countsIn(2, MAJOR, "into 16 apart in D major", 5,
            new int[][] {{0}, v(62, 57, 50, 42), v(66, 57, 50, 50)}, 0);
        countsIn(0, MINOR, "by 3 down into 24 apart in C minor", 5,
            new int[][] {{0}, v(75, 63, 60, 55), v(72, 63, 55, 48)}, 1);
    }

    private static void cost6() {
        Due.sentence("COST 6: the third twice or more in CHORD 0, 3, 4");
        counts("0: once", 6, 0, v(60, 55, 52, 48), v(60, 55, 52, 48), 0);
        counts("0: twice", 6, 0, v(60, 55, 52, 40), v(60, 55, 52, 48), 1);
        counts("0: three times", 6, 0, v(64, 60, 52, 40), v(64, 55, 55, 48), 1);
        counts("0: twice in both", 6, 0, v(76, 67, 64, 48), v(76, 67, 64, 48), 2);
        counts("3: twice", 6, 3, v(60, 57, 53, 45), v(60, 55, 52, 48), 1);
        counts("3: three times", 6, 3, v(65, 57, 57, 45), v(67, 64, 55, 48), 1);
        counts("1: twice", 6, 1, v(62, 53, 50, 41), v(60, 55, 52, 48), 0);
        counts("2: twice", 6, 2, v(64, 55, 52, 43), v(60, 55, 52, 48), 0);
        counts("5: twice", 6, 5, v(60, 57, 48, 40), v(60, 55, 52, 48), 0);
        counts("6: twice", 6, 6, v(62, 53, 50, 47), v(60, 55, 52, 48), 0);
        counts("8: twice", 6, 8, v(60, 53, 50, 41), v(60, 55, 52, 48), 0);
    }

    private static void cost7() {
        Due.sentence("COST 7: nothing moves");
        counts("nothing", 7, 0, v(60, 55, 52, 48), v(60, 55, 52, 48), 1);
        counts("the bass alone", 7, 0, v(60, 55, 52, 40), v(60, 55, 52, 48), 0);
        counts("the tenor alone", 7, 0, v(64, 55, 52, 48), v(64, 55, 48, 48), 0);
        counts("the alto alone", 7, 0, v(67, 64, 64, 48), v(67, 67, 64, 48), 0);
        counts("the soprano alone", 7, 0, v(64, 55, 52, 48), v(67, 55, 52, 48), 0);
    }

    private static void cost8() {
        Due.sentence("COST 8: two neighbours on one PITCH (each)");
        counts("none", 8, 0, v(60, 55, 52, 40), v(60, 55, 52, 48), 0);
        counts("soprano and alto", 8, 0, v(60, 60, 52, 40), v(72, 60, 52, 48), 1);
        counts("alto and tenor", 8, 0, v(60, 55, 55, 40), v(60, 55, 52, 48), 1);
        counts("tenor and bass", 8, 0, v(64, 60, 48, 48), v(64, 60, 60, 48), 2);
        counts("three on one pitch in each place", 8, 0, v(64, 60, 60, 60), v(64, 60, 60, 60), 4);
        counts("12 apart", 8, 0, v(72, 60, 52, 48), v(72, 60, 52, 48), 0);
    }

    private static void sumOfAll() {
        Due.sentence("3: its SUM is that of all COSTS (those of STATES, of STEPS)");
        ChoraleSearch x = Setting.fresh(16);
        for (int i = 0; i < 16; i++) {
            Setting.put(x, i, 0, v(64, 60, 60, 60));
        }
        Due.is("solve(0)", x.solve(0), 1);
        Due.is("sum(0): 16 states, 15 steps", x.sum(0), 16 * (2 + 2 * 2) + 15 * (3 + 5));
        for (int kind = 0; kind < 9; kind++) {
            x.cost(kind, 1000);
        }
        Due.is("solve(0)", x.solve(0), 1);
        Due.is("sum(0) with the greatest costs", x.sum(0), 16 * 3000 + 15 * 4000);
        Setting.costOnly(x, -1);
        Due.is("solve(0)", x.solve(0), 1);
        Due.is("sum(0) without costs", x.sum(0), 0);
        x.places(1);
        Setting.put(x, 0, 0, v(64, 60, 60, 60));
        x.cost(8, 7);
        Due.is("solve(0)", x.solve(0), 1);
        Due.is("sum(0) of one place: no step", x.sum(0), 14);
    }
}
