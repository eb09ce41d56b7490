/** Promises 1 to 22 one by one: ordinary inputs, the edges that the document names, wrong inputs. */
public final class PromisesTest {
    private static final int BAD = ChoraleSearch.BAD, NONE = ChoraleSearch.NONE, TOO_MANY = ChoraleSearch.TOO_MANY;
    private static final int[] WRONG = {Integer.MIN_VALUE, -1000, -3, 17, 85, 1001, Integer.MAX_VALUE};
    private static int wrong = 0;
    private static int asked = 0;

    public static void main(String[] args) {
        newObject();
        key();
        places();
        givenAndFree();
        figure();
        inversion();
        fermata();
        style();
        cost();
        range();
        stateRules();
        stepRules();
        grammar();
        stateCosts();
        stepCosts();
        solve();
        order();
        beam();
        rows();
        states();
        blocked();
        repair();
        passing();
        count();
        member();
        whatForgetsRows();
        whatKeepsRows();
        wrongArguments();
        System.out.println(asked + " answers, " + wrong + " wrong");
        if (wrong != 0) {
            System.exit(1);
        }
    }

    private static void due(String what, int got, int want) {
        asked++;
        if (got != want) {
            wrong++;
            System.out.println(what + " answered " + got + ", due is " + want);
        }
    }

    /** A voice over all places. */
    private static void give(ChoraleSearch x, int voice, int... pitches) {
        for (int i = 0; i < pitches.length; i++) {
            x.given(voice, i, pitches[i]);
        }
    }

    /** All voices of one place, soprano first. */
    private static void place(ChoraleSearch x, int i, int chord, int... pitches) {
        x.style(chord, true);
        x.figure(i, chord);
        for (int voice = 0; voice < 4; voice++) {
            x.given(voice, i, pitches[voice]);
        }
    }

    /** Two places, every note given, the last one I. */
    private static ChoraleSearch two(int chord, int[] first, int[] last) {
        ChoraleSearch x = new ChoraleSearch();
        x.places(2);
        place(x, 0, chord, first);
        place(x, 1, 0, last);
        return x;
    }

    private static int[] v(int s, int a, int t, int b) {
        return new int[] {s, a, t, b};
    }

    /** A row that goes through: the soprano E F D C in C major. */
    private static ChoraleSearch solved() {
        ChoraleSearch x = new ChoraleSearch();
        give(x, 0, 64, 65, 62, 60);
        due("solve(0) of E F D C", x.solve(0), 4);
        return x;
    }

    private static void newObject() {
        ChoraleSearch x = new ChoraleSearch();
        due("new: tonic", x.count(0), 0);
        due("new: minor", x.count(1), 0);
        due("new: places", x.count(2), 4);
        due("new: notes", x.count(3), 0);
        due("new: rows", x.count(4), 0);
        due("new: chords", x.count(5), 8);
        for (int chord = 0; chord < 13; chord++) {
            due("new: style has " + chord, x.style(chord, chord < 8), chord < 8 ? 1 : 0);
        }
        for (int i = 0; i < 4; i++) {
            due("new: figure", x.figure(i, -1), NONE);
            due("new: inversion", x.inversion(i, -1), NONE);
            due("new: fermata", x.fermata(i, false), 0);
            for (int voice = 0; voice < 4; voice++) {
                due("new: note", x.free(voice, i), NONE);
            }
        }
        int[] costs = {1, 2, 2, 1, 1, 4, 2, 5, 2};
        for (int kind = 0; kind < 9; kind++) {
            due("new: cost " + kind, x.cost(kind, costs[kind]), costs[kind]);
        }
        due("new: states of the first place", x.states(0), 981);
        due("new: states of the last place", x.states(3), 60);
    }

    private static void key() {
        ChoraleSearch x = new ChoraleSearch();
        due("key(0, 0)", x.key(0, 0), 1);
        due("key(11, 1)", x.key(11, 1), 1);
        due("tonic", x.count(0), 11);
        due("minor", x.count(1), 1);
        due("key(12, 0)", x.key(12, 0), BAD);
        due("key(-1, 0)", x.key(-1, 0), BAD);
        due("key(3, 2)", x.key(3, 2), BAD);
        due("key(3, -1)", x.key(3, -1), BAD);
        due("tonic after BAD", x.count(0), 11);
        due("minor after BAD", x.count(1), 1);
        x.key(2, 0);
        x.places(1);
        x.given(0, 0, 62);
        x.given(1, 0, 57);
        x.given(2, 0, 54);
        x.given(3, 0, 50);
        due("I of D major", x.states(0), 1);
        x.key(2, 1);
        due("I of D minor has no F sharp", x.states(0), 0);
    }

    private static void places() {
        ChoraleSearch x = new ChoraleSearch();
        due("places(16)", x.places(16), 4);
        due("places(1)", x.places(1), 16);
        due("places(0)", x.places(0), BAD);
        due("places(17)", x.places(17), BAD);
        due("places", x.count(2), 1);
        x.places(6);
        x.given(1, 2, 60);
        x.given(2, 5, 60);
        x.figure(5, 3);
        x.inversion(5, 2);
        x.fermata(5, true);
        x.figure(4, 4);
        due("places(5)", x.places(5), 6);
        due("notes that are left", x.count(3), 1);
        due("places(6)", x.places(6), 5);
        due("its note is gone", x.free(2, 5), NONE);
        due("its chord is gone", x.figure(5, -1), NONE);
        due("its inversion is gone", x.inversion(5, -1), NONE);
        due("its fermata is gone", x.fermata(5, false), 0);
        due("the chord before it is there", x.figure(4, -1), 4);
        due("the note before it is there", x.free(1, 2), 60);
    }

    private static void givenAndFree() {
        ChoraleSearch x = new ChoraleSearch();
        due("given(0, 0, 36)", x.given(0, 0, 36), NONE);
        due("given(0, 0, 84)", x.given(0, 0, 84), 36);
        due("given(3, 3, 60)", x.given(3, 3, 60), NONE);
        due("given: voice 4", x.given(4, 0, 60), BAD);
        due("given: voice -1", x.given(-1, 0, 60), BAD);
        due("given: place 4", x.given(0, 4, 60), BAD);
        due("given: place -1", x.given(0, -1, 60), BAD);
        due("given: pitch 35", x.given(0, 0, 35), BAD);
        due("given: pitch 85", x.given(0, 0, 85), BAD);
        due("notes", x.count(3), 2);
        due("free(0, 0)", x.free(0, 0), 84);
        due("free(0, 0) again", x.free(0, 0), NONE);
        due("free: voice 4", x.free(4, 0), BAD);
        due("free: voice -1", x.free(-1, 0), BAD);
        due("free: place 4", x.free(0, 4), BAD);
        due("free: place -1", x.free(0, -1), BAD);
        due("notes", x.count(3), 1);
        due("free(3, 3)", x.free(3, 3), 60);
        due("notes", x.count(3), 0);
    }

    private static void figure() {
        ChoraleSearch x = new ChoraleSearch();
        due("figure(0, 12)", x.figure(0, 12), NONE);
        due("a chord that the style lacks", x.states(0), 0);
        due("figure(0, 0)", x.figure(0, 0), 12);
        due("figure(0, -1)", x.figure(0, -1), 0);
        due("figure(0, -1) again", x.figure(0, -1), NONE);
        due("figure: chord 13", x.figure(0, 13), BAD);
        due("figure: chord -2", x.figure(0, -2), BAD);
        due("figure: place 4", x.figure(4, 0), BAD);
        due("figure: place -1", x.figure(-1, 0), BAD);
        int all = 0;
        for (int chord = 0; chord < 8; chord++) {
            x.figure(0, chord);
            all += x.states(0);
        }
        due("states of each chord together", all, 981);
    }

    private static void inversion() {
        ChoraleSearch x = new ChoraleSearch();
        x.figure(0, 7);
        int any = x.states(0);
        int all = 0;
        for (int k = 0; k < 4; k++) {
            due("inversion(0, " + k + ")", x.inversion(0, k), k == 0 ? NONE : k - 1);
            all += x.states(0);
        }
        due("states of each inversion together", all, any);
        x.figure(0, 4);
        due("a triad has no third inversion", x.states(0), 0);
        due("inversion(0, -1)", x.inversion(0, -1), 3);
        due("inversion(0, -1) again", x.inversion(0, -1), NONE);
        due("inversion: 4", x.inversion(0, 4), BAD);
        due("inversion: -2", x.inversion(0, -2), BAD);
        due("inversion: place 4", x.inversion(4, 0), BAD);
        due("inversion: place -1", x.inversion(-1, 0), BAD);
        due("the last place has the root in the bass", x.states(3), 60);
        x.inversion(3, 1);
        due("its first inversion", x.states(3), 0);
        x.inversion(3, 0);
        due("its root position", x.states(3), 60);
    }

    private static void fermata() {
        ChoraleSearch x = new ChoraleSearch();
        int each = 0;
        for (int chord = 0; chord < 6; chord = chord == 0 ? 4 : chord + 1) {
            x.figure(1, chord);
            each += x.states(1);
        }
        x.figure(1, -1);
        due("fermata(1, true)", x.fermata(1, true), 0);
        due("chords 0, 4 and 5 alone", x.states(1), each);
        due("fermata(1, true) again", x.fermata(1, true), 1);
        due("fermata(1, false)", x.fermata(1, false), 1);
        due("fermata(1, false) again", x.fermata(1, false), 0);
        due("all chords again", x.states(1), 981);
        due("fermata(3, true)", x.fermata(3, true), 0);
        due("the last place as before", x.states(3), 60);
        due("fermata: place 4", x.fermata(4, true), BAD);
        due("fermata: place -1", x.fermata(-1, true), BAD);
    }

    private static void style() {
        ChoraleSearch x = new ChoraleSearch();
        due("style(12, true)", x.style(12, true), 0);
        due("style(12, true) again", x.style(12, true), 1);
        due("chords", x.count(5), 9);
        due("style(0, false)", x.style(0, false), 1);
        due("style(0, false) again", x.style(0, false), 0);
        due("chords", x.count(5), 8);
        due("no I, no end", x.states(3), 0);
        due("style: 13", x.style(13, true), BAD);
        due("style: -1", x.style(-1, true), BAD);
        due("chords", x.count(5), 8);
    }

    private static void cost() {
        ChoraleSearch x = new ChoraleSearch();
        due("cost(8, 1000)", x.cost(8, 1000), 2);
        due("cost(8, 0)", x.cost(8, 0), 1000);
        due("cost: 1001", x.cost(8, 1001), BAD);
        due("cost: -1", x.cost(8, -1), BAD);
        due("cost: kind 9", x.cost(9, 1), BAD);
        due("cost: kind -1", x.cost(-1, 1), BAD);
        due("cost(8, 7)", x.cost(8, 7), 0);
    }

    private static void range() {
        ChoraleSearch x = new ChoraleSearch();
        x.places(1);
        due("range(0, 60, 60)", x.range(0, 60, 60), 1);
        due("states", x.states(0), 2);
        due("range(0, 61, 63)", x.range(0, 61, 63), 1);
        due("states", x.states(0), 0);
        due("range(0, 36, 84)", x.range(0, 36, 84), 1);
        due("range: low 35", x.range(0, 35, 60), BAD);
        due("range: high 85", x.range(0, 60, 85), BAD);
        due("range: the higher first", x.range(0, 61, 60), BAD);
        due("range: voice 4", x.range(4, 60, 61), BAD);
        due("range: voice -1", x.range(-1, 60, 61), BAD);
        x.given(0, 0, 84);
        x.given(1, 0, 72);
        x.range(1, 53, 71);
        due("a given note above its range", x.states(0), 0);
        x.range(1, 53, 72);
        due("a given note at its range's end", x.states(0) > 0 ? 1 : 0, 1);
    }

    /** Whether these four notes may stand as this chord at a first of two places. */
    private static void stands(String what, int chord, int[] notes, int want, int rules) {
        ChoraleSearch x = two(chord, notes, v(72, 67, 64, 48));
        for (int voice = 0; voice < 4; voice++) {
            x.range(voice, 36, 84);
        }
        due(what, x.states(0), want);
        if (want == 0) {
            due(what + ": place", x.blocked(0), 0);
            due(what + ": states", x.blocked(1), 0);
            due(what + ": rules", x.blocked(2), rules);
        }
    }

    private static void stateRules() {
        stands("I", 0, v(72, 67, 64, 48), 1, 0);
        stands("a note of no chord", 0, v(72, 67, 65, 48), 0, 0);
        stands("alto above soprano", 0, v(67, 72, 64, 48), 0, 1 << 3);
        stands("tenor above alto", 0, v(72, 64, 67, 48), 0, 1 << 3);
        stands("bass above tenor", 0, v(72, 67, 60, 64), 0, 1 << 3);
        stands("voices on one pitch", 0, v(64, 64, 60, 60), 1, 0);
        stands("soprano and alto 12 apart", 0, v(72, 60, 52, 48), 1, 0);
        stands("soprano and alto 15 apart", 0, v(79, 64, 60, 48), 0, 1 << 3);
        stands("alto and tenor 12 apart", 0, v(72, 64, 52, 48), 1, 0);
        stands("alto and tenor 15 apart", 0, v(72, 67, 52, 48), 0, 1 << 3);
        stands("tenor and bass 19 apart", 0, v(76, 72, 67, 48), 1, 0);
        stands("tenor and bass 21 apart", 5, v(76, 72, 69, 48), 0, 1 << 3);
        stands("no root", 0, v(79, 76, 67, 64), 0, 1 << 4);
        stands("no third", 0, v(79, 72, 67, 60), 0, 1 << 4);
        stands("no fifth", 0, v(76, 72, 64, 60), 1, 0);
        stands("no seventh", 7, v(74, 71, 67, 55), 0, 1 << 4);
        stands("seventh, no fifth", 7, v(77, 71, 67, 55), 1, 0);
        stands("V: degree 11 twice", 4, v(71, 67, 59, 55), 0, 1 << 5);
        stands("VII: degree 11 twice", 6, v(71, 65, 62, 59), 0, 1 << 5);
        stands("V seventh: degree 11 twice", 7, v(71, 65, 59, 55), 0, 1 << 5);
        stands("III in major: degree 11 twice", 2, v(71, 67, 64, 59), 0, 1 << 5);
        stands("V of VI: degree 11 twice", 11, v(71, 68, 64, 59), 1, 0);
        stands("a seventh twice", 8, v(74, 72, 65, 60), 0, 1 << 5);
        stands("a seventh twice and no third", 8, v(74, 72, 69, 60), 0, 1 << 4 | 1 << 5);
        ChoraleSearch x = two(0, v(72, 67, 64, 48), v(76, 67, 60, 52));
        due("the last place without its root in the bass", x.blocked(2), 1 << 6);
        x = two(0, v(72, 67, 64, 48), v(72, 69, 65, 53));
        x.figure(1, 3);
        due("the last place with IV", x.blocked(2), 1 << 6);
        x = two(3, v(72, 69, 65, 53), v(72, 67, 64, 48));
        x.fermata(0, true);
        due("a fermata on IV", x.blocked(2), 1 << 6);
        x = two(4, v(71, 67, 62, 55), v(72, 67, 64, 48));
        x.fermata(0, true);
        due("a fermata on V", x.solve(0), 1);
        x.key(0, 1);
        x.given(2, 1, 63);
        place(x, 0, 2, 70, 67, 63, 58);
        x.fermata(0, false);
        due("III in minor has no degree 11", x.states(0), 1);
    }

    private static void steps(String what, int chord, int[] first, int[] last, int rules) {
        ChoraleSearch x = two(chord, first, last);
        due(what, x.solve(0), rules == 0 ? 1 : 0);
        due(what + ": place", x.blocked(0), rules == 0 ? NONE : 1);
        due(what + ": states", x.blocked(1), rules == 0 ? NONE : 1);
        due(what + ": rules", x.blocked(2), rules == 0 ? NONE : rules);
    }

    private static void stepRules() {
        steps("7 V of V to I", 9, v(69, 66, 62, 50), v(72, 67, 64, 48), 1 << 7);
        steps("8 tenor and bass: octaves", 3, v(72, 69, 65, 53), v(76, 67, 60, 48), 1 << 8);
        steps("8 soprano and bass: fifths", 3, v(72, 65, 57, 53), v(67, 64, 60, 48), 1 << 8);
        steps("8 one of two stays", 3, v(69, 65, 60, 53), v(67, 64, 60, 48), 0);
        steps("9 the soprano by 10", 3, v(77, 65, 57, 53), v(67, 64, 60, 48), 1 << 9);
        steps("9 the bass by 12", 0, v(72, 67, 64, 60), v(72, 67, 64, 48), 0);
        steps("10 below what the alto had", 3, v(69, 65, 60, 45), v(64, 60, 55, 48), 1 << 10);
        steps("10 above what the voice before had", 3, v(65, 60, 57, 45), v(72, 67, 64, 48), 1 << 10);
        steps("11 the soprano goes down", 4, v(71, 67, 62, 55), v(67, 64, 60, 48), 1 << 11);
        steps("11 the soprano goes up", 4, v(71, 67, 62, 55), v(72, 67, 64, 48), 0);
        steps("11 the alto may go down", 4, v(74, 71, 67, 55), v(72, 67, 64, 48), 0);
        steps("12 the seventh goes up", 7, v(65, 62, 59, 55), v(67, 64, 60, 48), 1 << 12);
        steps("12 the seventh goes 1 down", 7, v(65, 62, 59, 55), v(64, 60, 60, 48), 0);
        ChoraleSearch x = new ChoraleSearch();
        x.places(3);
        place(x, 0, 4, 67, 62, 55, 47);
        place(x, 1, 5, 69, 60, 52, 45);
        due("11 the bass goes down to VI: place", x.blocked(0), 1);
        due("11 the bass goes down to VI: rules", x.blocked(2), 1 << 11);
        place(x, 0, 7, 65, 62, 59, 55);
        place(x, 1, 7, 74, 65, 59, 55);
        due("12 the seventh goes up, the chord is the same", x.states(0) * 10 + x.states(1), 11);
        due("12 the seventh goes up, the chord is the same: no bar there", x.blocked(0) == 1 ? 1 : 0, 0);
    }

    private static final int X = -1;
    private static final int[][] UNITS = {
        {3, 0, 2, 0, 0, 2, 0, 0, 0, 0, 0, 0, 0},
        {4, 3, 4, 2, 0, 4, 0, 0, 2, 1, 1, 1, 1},
        {2, 0, 3, 0, 0, 2, 0, 0, 0, 0, 0, 0, 0},
        {2, 2, 4, 3, 0, 4, 0, 0, 2, 1, 1, 1, 1},
        {0, X, X, X, 3, 2, 1, 1, X, X, X, X, 2},
        {2, 0, 2, 0, 0, 3, 0, 0, 0, 0, 0, 0, 0},
        {0, X, X, X, 1, 2, 3, 1, X, X, X, X, 2},
        {0, X, X, X, 3, 2, 3, 3, X, X, X, X, 2},
        {4, 2, 4, 2, 0, 4, 0, 0, 3, 1, 1, 1, 1},
        {X, X, X, X, 0, X, X, 0, X, 3, 1, X, X},
        {X, X, X, X, 0, X, X, 0, X, X, 3, X, X},
        {X, X, X, X, X, 0, X, X, X, X, X, 3, X},
        {X, X, X, 0, X, X, X, X, X, X, X, X, 3},
    };

    /** From one chord to the other and on to I by a way whose units are known, nothing else counted. */
    private static void grammar() {
        int[] onward = {X, 4, 4, 4, X, 4, X, X, 4, 4, 4, 5, 3};
        for (int from = 0; from < 13; from++) {
            for (int to = 0; to < 13; to++) {
                ChoraleSearch x = new ChoraleSearch();
                for (int kind = 0; kind < 9; kind++) {
                    x.cost(kind, kind == 4 ? 10 : 0);
                }
                x.places(16);
                x.style(from, true);
                x.style(to, true);
                x.figure(0, from);
                x.figure(1, to);
                int units = UNITS[from][to];
                int at = 1;
                int chord = to;
                while (onward[chord] != X) {
                    units += UNITS[chord][onward[chord]];
                    chord = onward[chord];
                    at++;
                    x.figure(at, chord);
                }
                units += UNITS[chord][0];
                x.figure(at + 1, 0);
                x.places(at + 2);
                String what = "grammar from " + from + " to " + to;
                if (noSeventhCanGo(from, to)) {
                    due(what, x.solve(0), 0);
                    due(what + ": rule 7 does not bar it", x.blocked(2) >> 7 & 1, 0);
                    due(what + ": rule 12 does", x.blocked(2) >> 12 & 1, 1);
                } else if (UNITS[from][to] == X) {
                    due(what, x.solve(0), 0);
                    due(what + ": place", x.blocked(0), 1);
                    due(what + ": rule 7", x.blocked(2) >> 7 & 1, 1);
                } else {
                    due(what, x.solve(0), 4);
                    due(what + ": units", x.sum(0), units * 10);
                }
            }
        }
    }

    /** The grammar has these, but the seventh finds no note of the next chord to go to. */
    private static boolean noSeventhCanGo(int from, int to) {
        return (from == 7 && to == 4) || (from == 8 && (to == 1 || to == 9));
    }

    private static void lastCosts(String what, int[] notes, int kind, int want) {
        ChoraleSearch x = new ChoraleSearch();
        x.places(1);
        place(x, 0, 0, notes);
        x.solve(0);
        due(what, x.sum(0), want);
        if (kind >= 0) {
            int per = x.cost(kind, 1000);
            x.solve(0);
            due(what + " by 1000", x.sum(0), want / per * 1000);
            x.cost(kind, 0);
            x.solve(0);
            due(what + " by 0", x.sum(0), 0);
        }
    }

    private static void stateCosts() {
        lastCosts("a plain I", v(72, 67, 64, 48), -1, 0);
        lastCosts("no fifth", v(72, 64, 60, 48), 2, 2);
        lastCosts("the third twice", v(76, 67, 64, 48), 6, 2);
        lastCosts("two on one pitch", v(67, 64, 60, 60), 8, 2);
        lastCosts("no fifth, the third twice", v(76, 64, 60, 48), -1, 4);
        ChoraleSearch x = new ChoraleSearch();
        x.places(1);
        x.range(0, 36, 84);
        place(x, 0, 0, 64, 60, 60, 60);
        x.solve(0);
        due("three on one pitch, no fifth", x.sum(0), 6);
    }

    private static void stepsCost(String what, int chord, int[] first, int[] last, int want, int kind, int then) {
        ChoraleSearch x = two(chord, first, last);
        due(what, x.solve(0), 1);
        due(what + ": sum", x.sum(0), want);
        x.cost(kind, 1000);
        x.solve(0);
        due(what + ": cost " + kind + " is 1000", x.sum(0), then);
    }

    private static void stepCosts() {
        stepsCost("V to I", 4, v(71, 67, 62, 55), v(72, 67, 64, 48), 0, 0, 0);
        stepsCost("by 3 and 4", 4, v(74, 67, 59, 55), v(72, 64, 55, 48), 3, 0, 3000);
        stepsCost("the bass by 9", 5, v(69, 64, 60, 57), v(67, 64, 60, 48), 4, 1, 1002);
        stepsCost("the bass by 7", 4, v(71, 67, 62, 55), v(72, 67, 64, 48), 0, 1, 0);
        stepsCost("the first inversion", 4, v(67, 62, 55, 47), v(67, 64, 55, 48), 1, 3, 1000);
        stepsCost("the second inversion", 4, v(67, 59, 55, 50), v(67, 60, 52, 48), 7, 3, 6001);
        stepsCost("the third inversion", 8, v(65, 62, 57, 48), v(64, 60, 55, 48), 6, 3, 2004);
        stepsCost("units", 8, v(65, 62, 57, 48), v(64, 60, 55, 48), 6, 4, 4002);
        stepsCost("alike into 0 apart", 3, v(69, 65, 60, 41), v(72, 67, 64, 48), 9, 5, 1005);
        stepsCost("alike, the soprano by 2", 5, v(69, 64, 60, 57), v(67, 64, 60, 48), 4, 5, 4);
        stepsCost("nothing moves", 0, v(72, 67, 64, 48), v(72, 67, 64, 48), 8, 7, 1003);
        stepsCost("the third of IV twice", 3, v(69, 60, 57, 53), v(67, 64, 60, 48), 7, 6, 1005);
        stepsCost("the third of VI twice", 5, v(72, 64, 60, 57), v(72, 64, 60, 48), 6, 6, 6);
    }

    private static void solve() {
        ChoraleSearch x = new ChoraleSearch();
        due("solve(0): too many", x.solve(0), TOO_MANY);
        due("solve(100): too many", x.solve(100), TOO_MANY);
        due("solve(101)", x.solve(101), BAD);
        due("solve(-1)", x.solve(-1), BAD);
        due("no rows", x.count(4), 0);
        x.given(0, 3, 61);
        due("too many states at one place, none at another", x.solve(0), TOO_MANY);
        x = solved();
        due("sum(0)", x.sum(0), 3);
        due("sum(3)", x.sum(3), 4);
        x.given(1, 3, 61);
        due("none", x.solve(0), 0);
        x = two(4, v(71, 67, 62, 55), v(72, 67, 64, 48));
        due("one", x.solve(0), 1);
        x.places(1);
        due("one place with one state", x.solve(0), 0);
        x = new ChoraleSearch();
        x.places(1);
        due("one place", x.solve(0), 4);
        x.given(0, 0, 60);
        due("one place, two states", x.solve(0), 2);
        due("their sums", x.sum(0) * 10 + x.sum(1), 4);
    }

    /** Without costs the order of rows is that of pitches and chords alone. */
    private static void order() {
        ChoraleSearch x = new ChoraleSearch();
        for (int kind = 0; kind < 9; kind++) {
            x.cost(kind, 0);
        }
        x.places(1);
        due("solve(0)", x.solve(0), 4);
        int[][] first = {v(60, 55, 52, 48), v(60, 60, 52, 48), v(64, 55, 48, 48), v(64, 55, 52, 48)};
        for (int k = 0; k < 4; k++) {
            for (int voice = 0; voice < 4; voice++) {
                due("note(" + k + ", " + voice + ", 0)", x.note(k, voice, 0), first[k][voice]);
            }
        }
        x.key(0, 1);
        x.places(3);
        place(x, 0, 11, 70, 67, 63, 51);
        x.figure(0, -1);
        x.figure(1, 5);
        due("III and V of VI on the same notes", x.states(0), 2);
        due("solve(0)", x.solve(0), 4);
        due("chord(0, 0)", x.chord(0, 0), 2);
        due("chord(3, 0)", x.chord(3, 0), 2);
        x.cost(4, 1);
        due("solve(0)", x.solve(0), 4);
        due("the one with fewer units first", x.chord(0, 0), 11);
    }

    private static void beam() {
        ChoraleSearch x = solved();
        due("least() of all", x.least(), 1);
        due("solve(1)", x.solve(1), 1);
        due("sum(0)", x.sum(0), 4);
        due("least() of one", x.least(), 0);
        due("solve(10)", x.solve(10), 4);
        due("least() of ten", x.least(), 0);
        due("solve(100)", x.solve(100), 4);
        due("least(): none left out", x.least(), 1);
        x.places(1);
        x.free(0, 0);
        due("60 states", x.states(0), 60);
        due("solve(59)", x.solve(59), 4);
        due("least() of 59", x.least(), 0);
        due("solve(60)", x.solve(60), 4);
        due("least() of 60", x.least(), 1);
        due("solve(3)", x.solve(3), 3);
        due("least() of 3", x.least(), 0);
    }

    private static void rows() {
        ChoraleSearch x = new ChoraleSearch();
        due("sum before solve", x.sum(0), BAD);
        due("note before solve", x.note(0, 0, 0), BAD);
        due("chord before solve", x.chord(0, 0), BAD);
        due("least before solve", x.least(), BAD);
        x = two(4, v(71, 67, 62, 55), v(72, 67, 64, 48));
        x.solve(0);
        int[][] notes = {v(71, 67, 62, 55), v(72, 67, 64, 48)};
        for (int i = 0; i < 2; i++) {
            for (int voice = 0; voice < 4; voice++) {
                due("note", x.note(0, voice, i), notes[i][voice]);
            }
        }
        due("chord(0, 0)", x.chord(0, 0), 4);
        due("chord(0, 1)", x.chord(0, 1), 0);
        due("note: row 1", x.note(1, 0, 0), BAD);
        due("note: row -1", x.note(-1, 0, 0), BAD);
        due("note: voice 4", x.note(0, 4, 0), BAD);
        due("note: voice -1", x.note(0, -1, 0), BAD);
        due("note: place 2", x.note(0, 0, 2), BAD);
        due("note: place -1", x.note(0, 0, -1), BAD);
        due("chord: row 1", x.chord(1, 0), BAD);
        due("chord: row -1", x.chord(-1, 0), BAD);
        due("chord: place 2", x.chord(0, 2), BAD);
        due("chord: place -1", x.chord(0, -1), BAD);
        due("sum: row 1", x.sum(1), BAD);
        due("sum: row -1", x.sum(-1), BAD);
        x.given(1, 1, 61);
        due("solve(0)", x.solve(0), 0);
        due("least without a row", x.least(), BAD);
    }

    private static void states() {
        ChoraleSearch x = new ChoraleSearch();
        due("states(0)", x.states(0), 981);
        due("states(3)", x.states(3), 60);
        due("states(4)", x.states(4), BAD);
        due("states(-1)", x.states(-1), BAD);
        give(x, 0, 64, 65, 62, 60);
        due("states(0) of E", x.states(0), 71);
        due("states(1) of F", x.states(1), 90);
        due("states(2) of D", x.states(2), 49);
        due("states(3) of C", x.states(3), 2);
    }

    private static void blocked() {
        ChoraleSearch x = new ChoraleSearch();
        due("blocked(0): too many", x.blocked(0), TOO_MANY);
        due("blocked(3)", x.blocked(3), BAD);
        due("blocked(-1)", x.blocked(-1), BAD);
        x = solved();
        due("blocked(0): a row", x.blocked(0), NONE);
        due("blocked(1): a row", x.blocked(1), NONE);
        due("blocked(2): a row", x.blocked(2), NONE);
        due("blocked(3)", x.blocked(3), BAD);
        x.fermata(1, true);
        due("blocked(0): no state", x.blocked(0), 1);
        due("blocked(1): no state", x.blocked(1), 0);
        due("blocked(2): no state", x.blocked(2), 1 << 3 | 1 << 4 | 1 << 5 | 1 << 6);
        x = new ChoraleSearch();
        x.places(1);
        x.given(3, 0, 52);
        due("blocked(0): one place", x.blocked(0), 0);
        due("blocked(2): one place", x.blocked(2) >> 6 & 1, 1);
        x.style(0, false);
        x.style(2, false);
        x.style(5, false);
        due("blocked(2): no chord has the note", x.blocked(2), 0);
        x = new ChoraleSearch();
        x.places(3);
        x.figure(0, 4);
        x.figure(1, 3);
        due("blocked(0): V to IV", x.blocked(0), 1);
        int fourths = x.states(1);
        due("blocked(1): V to IV", x.blocked(1), fourths);
        due("blocked(2): V to IV", x.blocked(2), 1 << 7 | 1 << 8 | 1 << 9 | 1 << 10);
        x = new ChoraleSearch();
        x.places(8);
        int[] chords = {0, 3, 9, 4, 7, 5, 4, 0};
        for (int i = 0; i < 8; i++) {
            x.style(chords[i], true);
            x.figure(i, chords[i]);
        }
        give(x, 3, 48, 53, 50, 55);
        due("a narrow beam finds none", x.solve(5), 0);
        due("blocked(0): yet there is a row", x.blocked(0), NONE);
        due("repair(): yet there is a row", x.repair(), BAD);
    }

    private static void repair() {
        ChoraleSearch x = new ChoraleSearch();
        due("repair(): too many", x.repair(), TOO_MANY);
        x = solved();
        due("repair(): a row", x.repair(), BAD);
        due("rows are kept", x.count(4), 4);
        x.given(2, 3, 54);
        due("repair(): too many without the first note", x.repair(), TOO_MANY);
        x.figure(0, 0);
        x.figure(1, 3);
        x.figure(2, 4);
        due("repair(): the tenor of the last place", x.repair(), 3 * 4 + 2);
        due("notes", x.count(3), 5);
        due("nothing has changed", x.free(2, 3), 54);
        due("repair(): there is a row again", x.repair(), BAD);
        x.given(2, 3, 54);
        x.given(1, 3, 56);
        due("repair(): two wrong notes", x.repair(), NONE);
        x.free(1, 3);
        x.free(2, 3);
        x.given(0, 1, 61);
        due("repair(): the soprano of place 1", x.repair(), 4);
        x = two(4, v(71, 67, 62, 55), v(67, 64, 60, 48));
        due("repair(): the soprano of the last place", x.repair(), 4);
        x = two(3, v(72, 69, 65, 53), v(76, 67, 60, 48));
        due("repair(): the first of those that would do", x.repair(), 2);
        x.free(2, 1);
        due("a later one would do, too", x.solve(0) > 0 ? 1 : 0, 1);
        x = new ChoraleSearch();
        x.places(2);
        x.figure(0, 4);
        x.figure(1, 4);
        due("repair(): no note is given", x.repair(), NONE);
    }

    private static void passing() {
        ChoraleSearch x = new ChoraleSearch();
        due("passing before solve", x.passing(0, 0), BAD);
        x.key(0, 1);
        x.places(3);
        place(x, 0, 3, 68, 65, 60, 53);
        place(x, 1, 4, 71, 62, 55, 55);
        place(x, 2, 0, 72, 63, 55, 48);
        due("IV V I in C minor", x.solve(0), 1);
        due("from A flat to B: none", x.passing(0, 0), NONE);
        due("from F down to D: E flat", x.passing(0, 1), 63);
        due("by 5: none", x.passing(0, 2), NONE);
        due("by 2: none", x.passing(0, 3), NONE);
        due("by 0: none", x.passing(1, 2), NONE);
        due("passing: the last place", x.passing(2, 0), BAD);
        due("passing: place -1", x.passing(-1, 0), BAD);
        due("passing: voice 4", x.passing(0, 4), BAD);
        due("passing: voice -1", x.passing(0, -1), BAD);
        x = two(4, v(74, 67, 59, 55), v(72, 64, 55, 48));
        x.solve(0);
        due("by 3, from G down to E: F", x.passing(0, 1), 65);
        due("by 4, from B down to G: A", x.passing(0, 2), 57);
        due("by 7: none", x.passing(0, 3), NONE);
        x = two(3, v(69, 65, 60, 41), v(72, 67, 64, 48));
        x.solve(0);
        due("by 3, from A up to C: B", x.passing(0, 0), 71);
        due("by 4, from C up to E: D", x.passing(0, 2), 62);
        x.places(1);
        x.solve(0);
        due("passing with one place", x.passing(0, 0), BAD);
    }

    private static void count() {
        ChoraleSearch x = solved();
        due("count(2)", x.count(2), 4);
        due("count(3)", x.count(3), 4);
        due("count(4)", x.count(4), 4);
        due("count(5)", x.count(5), 8);
        due("count(6)", x.count(6), BAD);
        due("count(-1)", x.count(-1), BAD);
        x.solve(1);
        due("count(4) of one row", x.count(4), 1);
    }

    private static void member() {
        int[][] major = {{0, 4, 7, NONE}, {2, 5, 9, NONE}, {4, 7, 11, NONE}, {5, 9, 0, NONE}, {7, 11, 2, NONE},
            {9, 0, 4, NONE}, {11, 2, 5, NONE}, {7, 11, 2, 5}, {2, 5, 9, 0}, {2, 6, 9, NONE}, {2, 6, 9, 0},
            {4, 8, 11, NONE}, {0, 4, 7, 10}};
        int[][] minor = {{0, 3, 7, NONE}, {2, 5, 8, NONE}, {3, 7, 10, NONE}, {5, 8, 0, NONE}, {7, 11, 2, NONE},
            {8, 0, 3, NONE}, {11, 2, 5, NONE}, {7, 11, 2, 5}, {2, 5, 8, 0}, {2, 6, 9, NONE}, {2, 6, 9, 0},
            {3, 7, 10, NONE}, {0, 4, 7, 10}};
        ChoraleSearch x = new ChoraleSearch();
        for (int tonic = 0; tonic < 12; tonic++) {
            for (int chord = 0; chord < 13; chord++) {
                for (int k = 0; k < 4; k++) {
                    x.key(tonic, 0);
                    int degree = major[chord][k];
                    due("member, major", x.member(chord, k), degree == NONE ? NONE : (degree + tonic) % 12);
                    x.key(tonic, 1);
                    degree = minor[chord][k];
                    due("member, minor", x.member(chord, k), degree == NONE ? NONE : (degree + tonic) % 12);
                }
            }
        }
        due("member: chord 13", x.member(13, 0), BAD);
        due("member: chord -1", x.member(-1, 0), BAD);
        due("member: 4", x.member(0, 4), BAD);
        due("member: -1", x.member(0, -1), BAD);
    }

    private static int tell(ChoraleSearch x, int call, boolean right) {
        switch (call) {
            case 0:
                return x.key(right ? 0 : 12, 0);
            case 1:
                return x.places(right ? 4 : 17);
            case 2:
                return x.given(0, 0, right ? 64 : 85);
            case 3:
                return x.free(right ? 1 : 4, 0);
            case 4:
                return x.figure(0, right ? -1 : 13);
            case 5:
                return x.inversion(0, right ? -1 : 4);
            case 6:
                return x.fermata(right ? 0 : 4, false);
            case 7:
                return x.style(right ? 0 : 13, true);
            case 8:
                return x.cost(0, right ? 1 : 1001);
            case 9:
                return x.range(0, 60, right ? 81 : 59);
            default:
                return x.solve(right ? 0 : 101);
        }
    }

    private static void whatForgetsRows() {
        for (int call = 0; call < 10; call++) {
            ChoraleSearch x = solved();
            tell(x, call, true);
            due("rows after call " + call, x.count(4), 0);
            due("sum(0) after call " + call, x.sum(0), BAD);
            due("note after call " + call, x.note(0, 0, 0), BAD);
            due("chord after call " + call, x.chord(0, 0), BAD);
            due("least() after call " + call, x.least(), BAD);
            due("passing after call " + call, x.passing(0, 0), BAD);
        }
        ChoraleSearch x = solved();
        x.free(0, 0);
        due("solve(0)", x.solve(0), TOO_MANY);
        due("rows after TOO_MANY", x.count(4), 0);
    }

    private static void whatKeepsRows() {
        ChoraleSearch x = solved();
        for (int call = 0; call < 11; call++) {
            due("wrong call " + call, tell(x, call, false), BAD);
        }
        x.states(0);
        x.blocked(0);
        x.repair();
        x.member(0, 0);
        due("rows", x.count(4), 4);
        due("sum(0)", x.sum(0), 3);
        due("note(0, 3, 0)", x.note(0, 3, 0), 43);
        due("chord(0, 0)", x.chord(0, 0), 2);
        due("least()", x.least(), 1);
    }

    private static void wrongArguments() {
        ChoraleSearch x = solved();
        for (int w : WRONG) {
            due("key", x.key(w, 0), BAD);
            due("key", x.key(0, w), BAD);
            due("places", x.places(w), BAD);
            due("given", x.given(w, 0, 60), BAD);
            due("given", x.given(0, w, 60), BAD);
            due("given", x.given(0, 0, w), BAD);
            due("free", x.free(w, 0), BAD);
            due("free", x.free(0, w), BAD);
            due("figure", x.figure(w, 0), BAD);
            due("figure", x.figure(0, w), BAD);
            due("inversion", x.inversion(w, 0), BAD);
            due("inversion", x.inversion(0, w), BAD);
            due("fermata", x.fermata(w, true), BAD);
            due("style", x.style(w, true), BAD);
            due("cost", x.cost(w, 1), BAD);
            due("range", x.range(w, 40, 60), BAD);
            due("range", x.range(0, w, 60), BAD);
            due("range", x.range(0, 60, w), BAD);
            due("note", x.note(w, 0, 0), BAD);
            due("note", x.note(0, w, 0), BAD);
            due("note", x.note(0, 0, w), BAD);
            due("chord", x.chord(w, 0), BAD);
            due("chord", x.chord(0, w), BAD);
            due("sum", x.sum(w), BAD);
            due("states", x.states(w), BAD);
            due("blocked", x.blocked(w), BAD);
            due("passing", x.passing(w, 0), BAD);
            due("passing", x.passing(0, w), BAD);
            due("count", x.count(w), BAD);
            due("member", x.member(w, 0), BAD);
            due("member", x.member(0, w), BAD);
        }
        due("rows", x.count(4), 4);
    }
}
