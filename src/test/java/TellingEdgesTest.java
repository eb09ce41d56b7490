/** The boundary cases of what is told and told back: the terms' numbers, promises 1 to 11, 21, 22. */
public final class TellingEdgesTest {
    private static final int BAD = ChoraleSearch.BAD, NONE = ChoraleSearch.NONE;
    private static final String[] TELLING = {"key", "places", "given", "free", "figure", "inversion", "fermata",
        "style", "cost", "range"};

    public static void main(String[] args) {
        answersApart();
        newObject();
        fiveHundredAndTwelveCalls();
        pitchesEnd();
        classesWrap();
        voicesEnd();
        placesEnd();
        keyEnds();
        keyChanges();
        keyChangesChords();
        placesNumber();
        placesShrink();
        placesGrow();
        placesStay();
        placesMoveTheLast();
        givenAnswers();
        givenEnds();
        freeAnswers();
        freeEnds();
        figureAnswers();
        figureEnds();
        figureOutsideTheStyle();
        inversionAnswers();
        inversionEnds();
        fermataAnswers();
        fermataEnds();
        styleAnswers();
        styleEnds();
        styleEmptyAndFull();
        costAnswers();
        costEnds();
        rangeAnswers();
        rangeEnds();
        rangeOfOnePitch();
        refusedCallsChangeNothing();
        foundRowsAreGone();
        countEnds();
        countNotes();
        countRows();
        memberEnds();
        memberSevenths();
        Due.end();
    }

    private static void answersApart() {
        Due.sentence("BAD = -1, NONE = -2, TOO_MANY = -3");
        Due.is("BAD", ChoraleSearch.BAD, -1);
        Due.is("NONE", ChoraleSearch.NONE, -2);
        Due.is("TOO_MANY", ChoraleSearch.TOO_MANY, -3);
    }

    private static void newObject() {
        Due.sentence("Promise 1: C major, 4 places, nothing given, the style has CHORDS 0 to 7");
        ChoraleSearch x = new ChoraleSearch();
        int[] counts = {0, 0, 4, 0, 0, 8};
        for (int what = 0; what < 6; what++) {
            Due.is("count(" + what + ")", x.count(what), counts[what]);
        }
        for (int i = 0; i < 4; i++) {
            for (int voice = 0; voice < 4; voice++) {
                Due.is("free(" + voice + ", " + i + ")", x.free(voice, i), NONE);
            }
            Due.is("figure(" + i + ", -1)", x.figure(i, -1), NONE);
            Due.is("inversion(" + i + ", -1)", x.inversion(i, -1), NONE);
            Due.is("fermata(" + i + ", false)", x.fermata(i, false), 0);
        }
        Due.is("style(7, true): the last that it has", x.style(7, true), 1);
        Due.is("style(8, false): the first that it lacks", x.style(8, false), 0);
        Due.is("sum(0): nothing is found", x.sum(0), BAD);
        new ChoraleSearch().key(5, 1);
        Due.is("count(0): another object's key", x.count(0), 0);
    }

    private static void fiveHundredAndTwelveCalls() {
        Due.sentence("An object is used for at most 512 calls");
        ChoraleSearch x = new ChoraleSearch();
        x.places(1);
        for (int call = 2; call < 510; call += 2) {
            Due.is("given(0, 0, 60)", x.given(0, 0, call == 2 ? 60 : 64), call == 2 ? NONE : call == 4 ? 60 : 64);
            Due.is("solve(0)", x.solve(0), call == 2 ? 2 : 4);
        }
        Due.is("given(0, 0, 60), call 510", x.given(0, 0, 60), 64);
        Due.is("solve(0), call 511", x.solve(0), 2);
        Due.is("note(0, 3, 0), call 512", x.note(0, 3, 0), 48);
    }

    private static void pitchesEnd() {
        Due.sentence("Terms: PITCHES are 36 .. 84");
        ChoraleSearch x = Setting.wide(1);
        Setting.giveAll(x, 0, Setting.v(67, 60, 52, 36));
        Due.is("states(0) with the lowest pitch", x.states(0), 1);
        x.solve(0);
        Due.is("note of the lowest pitch", x.note(0, 3, 0), 36);
        Due.is("sum of a row that nothing makes dear", x.sum(0), 0);
        Setting.giveAll(x, 0, Setting.v(84, 76, 67, 48));
        Due.is("states(0) with the highest pitch", x.states(0), 1);
        x.solve(0);
        Due.is("note of the highest pitch", x.note(0, 0, 0), 84);
        Due.is("sum of a row that nothing makes dear", x.sum(0), 0);
    }

    private static void classesWrap() {
        Due.sentence("Terms: their CLASS is the rest of 12; DEGREES are CLASSES above the TONIC");
        ChoraleSearch x = Setting.fresh(1);
        x.key(11, 0);
        Due.is("member(0, 0) of B major", x.member(0, 0), 11);
        Due.is("member(0, 1) of B major", x.member(0, 1), 3);
        Due.is("member(6, 0) of B major", x.member(6, 0), 10);
        Due.is("member(9, 1) of B major", x.member(9, 1), 5);
        x.key(1, 0);
        Due.is("member(4, 1) of D flat major", x.member(4, 1), 0);
        x.key(11, 1);
        Due.is("member(0, 1) of B minor", x.member(0, 1), 2);
        x.key(11, 0);
        Setting.giveAll(x, 0, Setting.v(71, 66, 63, 47));
        Due.is("states(0): I of B major", x.states(0), 1);
        x.given(2, 0, 62);
        Due.is("states(0): D is not in it", x.states(0), 0);
    }

    private static void voicesEnd() {
        Due.sentence("Terms: VOICES 0 to 3");
        ChoraleSearch x = Setting.solved();
        Due.is("note(0, 0, 0)", x.note(0, 0, 0), 64);
        Due.is("note(0, 3, 0)", x.note(0, 3, 0), 43);
        for (int voice : Setting.outside(0, 3)) {
            Due.is("note of voice " + voice, x.note(0, voice, 0), BAD);
            Due.is("passing of voice " + voice, x.passing(0, voice), BAD);
            Due.is("given of voice " + voice, x.given(voice, 0, 60), BAD);
            Due.is("free of voice " + voice, x.free(voice, 0), BAD);
            Due.is("range of voice " + voice, x.range(voice, 48, 60), BAD);
        }
        Due.is("range(0, ..)", x.range(0, 60, 81), 1);
        Due.is("range(3, ..)", x.range(3, 40, 62), 1);
    }

    private static void placesEnd() {
        Due.sentence("Terms: PLACES 1 .. 16");
        for (int n = 1; n <= 16; n += 5) {
            ChoraleSearch x = Setting.fresh(n);
            Due.is("given at the first place", x.given(0, 0, 60), NONE);
            Due.is("free at the last place", x.free(1, n - 1), NONE);
            Due.is("figure of the last place", x.figure(n - 1, 0), NONE);
            Due.is("inversion of the last place", x.inversion(n - 1, 0), NONE);
            Due.is("fermata of the last place", x.fermata(n - 1, true), 0);
            Due.is("states of the last place", x.states(n - 1) > 0 ? 1 : 0, 1);
            for (int i : Setting.outside(0, n - 1)) {
                Due.is("given at " + i, x.given(0, i, 60), BAD);
                Due.is("free at " + i, x.free(0, i), BAD);
                Due.is("figure of " + i, x.figure(i, 0), BAD);
                Due.is("inversion of " + i, x.inversion(i, 0), BAD);
                Due.is("fermata of " + i, x.fermata(i, true), BAD);
                Due.is("states of " + i, x.states(i), BAD);
            }
        }
    }

    private static void keyEnds() {
        Due.sentence("Promise 2: its TONIC 0 .. 11, minor (1) or major (0): 1. BAD: none such");
        ChoraleSearch x = new ChoraleSearch();
        for (int tonic = 0; tonic <= 11; tonic++) {
            for (int minor = 0; minor <= 1; minor++) {
                Due.is("key(" + tonic + ", " + minor + ")", x.key(tonic, minor), 1);
                Due.is("count(0)", x.count(0), tonic);
                Due.is("count(1)", x.count(1), minor);
            }
        }
        for (int wrong : Setting.outside(0, 11)) {
            Due.is("key(" + wrong + ", 0)", x.key(wrong, 0), BAD);
        }
        for (int wrong : Setting.outside(0, 1)) {
            Due.is("key(0, " + wrong + ")", x.key(0, wrong), BAD);
        }
        Due.is("count(0) after refused calls", x.count(0), 11);
        Due.is("count(1) after refused calls", x.count(1), 1);
    }

    private static void keyChanges() {
        Due.sentence("Promise 2: THE KEY (all else that was told stays)");
        ChoraleSearch x = new ChoraleSearch();
        x.given(0, 0, 64);
        x.figure(1, 3);
        x.style(9, true);
        x.cost(4, 7);
        x.key(0, 1);
        Due.is("count(3)", x.count(3), 1);
        Due.is("states(0): no chord of the style has E in C minor", x.states(0), 0);
        x.key(0, 0);
        Due.is("free(0, 0)", x.free(0, 0), 64);
        Due.is("figure(1, -1)", x.figure(1, -1), 3);
        Due.is("style(9, false)", x.style(9, false), 1);
        Due.is("cost(4, 1)", x.cost(4, 1), 7);
    }

    private static void keyChangesChords() {
        Due.sentence("Promise 2: THE KEY (nothing of the one before it is left)");
        ChoraleSearch always = Setting.fresh(2);
        always.key(2, 1);
        ChoraleSearch changed = Setting.fresh(2);
        changed.key(0, 0);
        changed.key(2, 0);
        changed.key(2, 1);
        for (int chord = 0; chord < 13; chord++) {
            always.style(chord, true);
            changed.style(chord, true);
            for (int k = 0; k < 4; k++) {
                Due.is("member(" + chord + ", " + k + ")", changed.member(chord, k), always.member(chord, k));
                always.figure(0, chord);
                changed.figure(0, chord);
                always.inversion(0, k);
                changed.inversion(0, k);
                Due.is("states(0), chord " + chord + ", inversion " + k, changed.states(0), always.states(0));
            }
        }
        Due.is("states(1)", changed.states(1), always.states(1));
    }

    private static void placesNumber() {
        Due.sentence("Promise 3: how many there were. BAD: another number");
        ChoraleSearch x = new ChoraleSearch();
        Due.is("places(1)", x.places(1), 4);
        Due.is("places(16)", x.places(16), 1);
        for (int wrong : Setting.outside(1, 16)) {
            Due.is("places(" + wrong + ")", x.places(wrong), BAD);
        }
        Due.is("count(2)", x.count(2), 16);
        Due.is("places(16) again", x.places(16), 16);
    }

    private static void placesShrink() {
        Due.sentence("Promise 3: what is given at others is gone");
        ChoraleSearch x = Setting.fresh(16);
        for (int i = 0; i < 16; i++) {
            Setting.giveAll(x, i, Setting.v(60, 61, 62, 63));
            x.figure(i, 4);
            x.inversion(i, 2);
            x.fermata(i, true);
        }
        Due.is("count(3): every note", x.count(3), 64);
        x.places(15);
        Due.is("count(3) of 15 places", x.count(3), 60);
        x.places(1);
        Due.is("count(3) of one place", x.count(3), 4);
        x.places(16);
        Due.is("count(3) of 16 places again", x.count(3), 4);
        for (int i = 1; i < 16; i += 7) {
            Due.is("free(3, " + i + ")", x.free(3, i), NONE);
            Due.is("figure(" + i + ", -1)", x.figure(i, -1), NONE);
            Due.is("inversion(" + i + ", -1)", x.inversion(i, -1), NONE);
            Due.is("fermata(" + i + ", false)", x.fermata(i, false), 0);
        }
        Due.is("free(3, 0)", x.free(3, 0), 63);
        Due.is("figure(0, -1)", x.figure(0, -1), 4);
        Due.is("inversion(0, -1)", x.inversion(0, -1), 2);
        Due.is("fermata(0, false)", x.fermata(0, false), 1);
    }

    private static void placesGrow() {
        Due.sentence("Promise 3: how many places (those that are new have nothing given)");
        ChoraleSearch x = new ChoraleSearch();
        x.given(0, 3, 72);
        x.places(16);
        Due.is("count(3)", x.count(3), 1);
        Due.is("states(4): a new place", x.states(4), 981);
        Due.is("states(15): the last place", x.states(15), 60);
        Due.is("free(0, 3)", x.free(0, 3), 72);
    }

    private static void placesStay() {
        Due.sentence("Promise 3: as many places as there were: nothing is at others");
        ChoraleSearch x = Setting.solved();
        Due.is("places(4)", x.places(4), 4);
        Due.is("count(3)", x.count(3), 4);
        Due.is("count(4): what was found is gone", x.count(4), 0);
        Due.is("solve(0)", x.solve(0), 4);
    }

    private static void placesMoveTheLast() {
        Due.sentence("Promise 3 with RULE 6: the last place is another one");
        ChoraleSearch x = new ChoraleSearch();
        Due.is("states(3): the last", x.states(3), 60);
        x.places(5);
        Due.is("states(3): no more the last", x.states(3), 981);
        Due.is("states(4): the last", x.states(4), 60);
        x.places(2);
        Due.is("states(1): the last", x.states(1), 60);
    }

    private static void givenAnswers() {
        Due.sentence("Promise 4: what it had (NONE)");
        ChoraleSearch x = new ChoraleSearch();
        Due.is("given(2, 1, 60)", x.given(2, 1, 60), NONE);
        Due.is("given(2, 1, 60) again", x.given(2, 1, 60), 60);
        Due.is("given(2, 1, 62)", x.given(2, 1, 62), 60);
        Due.is("given(1, 1, 64): another voice", x.given(1, 1, 64), NONE);
        Due.is("given(2, 0, 64): another place", x.given(2, 0, 64), NONE);
        Due.is("given(2, 1, 55)", x.given(2, 1, 55), 62);
    }

    private static void givenEnds() {
        Due.sentence("Promise 4: BAD: none such");
        ChoraleSearch x = new ChoraleSearch();
        Due.is("given(0, 0, 36)", x.given(0, 0, 36), NONE);
        Due.is("given(3, 3, 84)", x.given(3, 3, 84), NONE);
        for (int wrong : Setting.outside(36, 84)) {
            Due.is("given(0, 0, " + wrong + ")", x.given(0, 0, wrong), BAD);
        }
        Due.is("given(0, 0, NONE)", x.given(0, 0, NONE), BAD);
        Due.is("given(0, 0, BAD)", x.given(0, 0, BAD), BAD);
        Due.is("given(4, 4, 85): nothing is such", x.given(4, 4, 85), BAD);
        Due.is("free(0, 0) after refused calls", x.free(0, 0), 36);
        Due.is("free(3, 3)", x.free(3, 3), 84);
    }

    private static void freeAnswers() {
        Due.sentence("Promise 5: what it had (NONE)");
        ChoraleSearch x = new ChoraleSearch();
        Due.is("free(1, 2)", x.free(1, 2), NONE);
        x.given(1, 2, 65);
        x.given(2, 2, 60);
        Due.is("free(1, 2) of a note", x.free(1, 2), 65);
        Due.is("free(1, 2) again", x.free(1, 2), NONE);
        Due.is("free(2, 2): the other voice kept its note", x.free(2, 2), 60);
        Due.is("states(2)", x.states(2), 981);
    }

    private static void freeEnds() {
        Due.sentence("Promise 5: BAD: none such");
        ChoraleSearch x = new ChoraleSearch();
        x.given(0, 0, 60);
        x.given(3, 3, 48);
        for (int wrong : Setting.outside(0, 3)) {
            Due.is("free(" + wrong + ", 0)", x.free(wrong, 0), BAD);
            Due.is("free(0, " + wrong + ")", x.free(0, wrong), BAD);
        }
        Due.is("count(3) after refused calls", x.count(3), 2);
        Due.is("free(0, 0)", x.free(0, 0), 60);
        Due.is("free(3, 3)", x.free(3, 3), 48);
    }

    private static void figureAnswers() {
        Due.sentence("Promise 6: (- 1: any): what it had (NONE: any)");
        ChoraleSearch x = new ChoraleSearch();
        Due.is("figure(0, -1)", x.figure(0, -1), NONE);
        Due.is("figure(0, 0)", x.figure(0, 0), NONE);
        Due.is("figure(0, 0) again", x.figure(0, 0), 0);
        Due.is("figure(0, 12)", x.figure(0, 12), 0);
        Due.is("figure(1, 3): another place", x.figure(1, 3), NONE);
        Due.is("figure(0, -1)", x.figure(0, -1), 12);
        Due.is("states(0): any again", x.states(0), 981);
        Due.is("figure(1, -1)", x.figure(1, -1), 3);
    }

    private static void figureEnds() {
        Due.sentence("Promise 6: BAD: none such");
        ChoraleSearch x = new ChoraleSearch();
        x.figure(0, 5);
        for (int wrong : Setting.outside(-1, 12)) {
            Due.is("figure(0, " + wrong + ")", x.figure(0, wrong), BAD);
        }
        for (int wrong : Setting.outside(0, 3)) {
            Due.is("figure(" + wrong + ", -1)", x.figure(wrong, -1), BAD);
        }
        Due.is("figure(0, -1) after refused calls", x.figure(0, -1), 5);
    }

    private static void figureOutsideTheStyle() {
        Due.sentence("Promise 6 with 'a CHORD that the style has'");
        ChoraleSearch x = new ChoraleSearch();
        Due.is("figure(0, 8)", x.figure(0, 8), NONE);
        Due.is("states(0): the style lacks it", x.states(0), 0);
        x.style(8, true);
        Due.is("states(0): the style has it", x.states(0), 121);
        x.style(8, false);
        Due.is("states(0): no more", x.states(0), 0);
        Due.is("figure(0, -1): it stayed told", x.figure(0, -1), 8);
    }

    private static void inversionAnswers() {
        Due.sentence("Promise 7: (0 .. 3; - 1: any): what it had (NONE)");
        ChoraleSearch x = new ChoraleSearch();
        Due.is("inversion(0, -1)", x.inversion(0, -1), NONE);
        Due.is("inversion(0, 0)", x.inversion(0, 0), NONE);
        Due.is("inversion(0, 0) again", x.inversion(0, 0), 0);
        Due.is("inversion(0, 3)", x.inversion(0, 3), 0);
        Due.is("inversion(1, 1): another place", x.inversion(1, 1), NONE);
        Due.is("inversion(0, -1)", x.inversion(0, -1), 3);
        Due.is("states(0): any again", x.states(0), 981);
        Due.is("inversion(1, -1)", x.inversion(1, -1), 1);
    }

    private static void inversionEnds() {
        Due.sentence("Promise 7: BAD: none such");
        ChoraleSearch x = new ChoraleSearch();
        x.inversion(0, 2);
        for (int wrong : Setting.outside(-1, 3)) {
            Due.is("inversion(0, " + wrong + ")", x.inversion(0, wrong), BAD);
        }
        for (int wrong : Setting.outside(0, 3)) {
            Due.is("inversion(" + wrong + ", -1)", x.inversion(wrong, -1), BAD);
        }
        Due.is("inversion(0, -1) after refused calls", x.inversion(0, -1), 2);
    }

    private static void fermataAnswers() {
        Due.sentence("Promise 8: A place has a FERMATA, or not: 1 it had, 0");
        ChoraleSearch x = new ChoraleSearch();
        Due.is("fermata(0, false)", x.fermata(0, false), 0);
        Due.is("fermata(0, true)", x.fermata(0, true), 0);
        Due.is("fermata(0, true) again", x.fermata(0, true), 1);
        Due.is("fermata(1, true): another place", x.fermata(1, true), 0);
        Due.is("fermata(0, false)", x.fermata(0, false), 1);
        Due.is("fermata(0, false) again", x.fermata(0, false), 0);
        Due.is("fermata(1, false)", x.fermata(1, false), 1);
    }

    private static void fermataEnds() {
        Due.sentence("Promise 8: BAD: none such");
        ChoraleSearch x = new ChoraleSearch();
        x.fermata(0, true);
        for (int wrong : Setting.outside(0, 3)) {
            Due.is("fermata(" + wrong + ", true)", x.fermata(wrong, true), BAD);
            Due.is("fermata(" + wrong + ", false)", x.fermata(wrong, false), BAD);
        }
        Due.is("fermata(0, false) after refused calls", x.fermata(0, false), 1);
        Due.is("fermata(3, false)", x.fermata(3, false), 0);
    }

    private static void styleAnswers() {
        Due.sentence("Promise 9: The style has a CHORD, or not: 1 it had, 0");
        ChoraleSearch x = new ChoraleSearch();
        for (int chord = 0; chord < 13; chord++) {
            int had = chord < 8 ? 1 : 0;
            Due.is("style(" + chord + ", false)", x.style(chord, false), had);
            Due.is("style(" + chord + ", false) again", x.style(chord, false), 0);
            Due.is("style(" + chord + ", true)", x.style(chord, true), 0);
            Due.is("style(" + chord + ", true) again", x.style(chord, true), 1);
        }
    }

    private static void styleEnds() {
        Due.sentence("Promise 9: BAD: none such");
        ChoraleSearch x = new ChoraleSearch();
        for (int wrong : Setting.outside(0, 12)) {
            Due.is("style(" + wrong + ", true)", x.style(wrong, true), BAD);
            Due.is("style(" + wrong + ", false)", x.style(wrong, false), BAD);
        }
        // A shift by 32 or 64 is a shift by 0.
        Due.is("style(32, false)", x.style(32, false), BAD);
        Due.is("style(64, false)", x.style(64, false), BAD);
        Due.is("count(5) after refused calls", x.count(5), 8);
        Due.is("style(0, true)", x.style(0, true), 1);
    }

    private static void styleEmptyAndFull() {
        Due.sentence("Promise 9: a style with no CHORD, and with every one");
        ChoraleSearch x = new ChoraleSearch();
        Setting.styleOnly(x);
        Due.is("count(5): none", x.count(5), 0);
        Due.is("states(0)", x.states(0), 0);
        Due.is("solve(0)", x.solve(0), 0);
        Due.is("blocked(0)", x.blocked(0), 0);
        Due.is("blocked(1)", x.blocked(1), 0);
        Due.is("blocked(2): no state keeps 1 and 2", x.blocked(2), 0);
        Due.is("repair()", x.repair(), NONE);
        Setting.styleOnly(x, 0, 1, 2, 3, 4, 5, 6, 7, 8, 9, 10, 11, 12);
        Due.is("count(5): all", x.count(5), 13);
        Due.is("states(0)", x.states(0), 981 + 121 + 160 + 121 + 140 + 109);
    }

    private static void costAnswers() {
        Due.sentence("Promise 10: What a COST counts (0 .. 1,000): what it did");
        int[] first = {1, 2, 2, 1, 1, 4, 2, 5, 2};
        ChoraleSearch x = new ChoraleSearch();
        for (int kind = 0; kind < 9; kind++) {
            Due.is("cost(" + kind + ", 1000)", x.cost(kind, 1000), first[kind]);
            Due.is("cost(" + kind + ", 0)", x.cost(kind, 0), 1000);
            Due.is("cost(" + kind + ", 0) again", x.cost(kind, 0), 0);
        }
    }

    private static void costEnds() {
        Due.sentence("Promise 10: BAD: no such kind, another number");
        ChoraleSearch x = new ChoraleSearch();
        for (int wrong : Setting.outside(0, 8)) {
            Due.is("cost(" + wrong + ", 1)", x.cost(wrong, 1), BAD);
        }
        for (int kind = 0; kind < 9; kind += 8) {
            x.cost(kind, 11);
            for (int wrong : Setting.outside(0, 1000)) {
                Due.is("cost(" + kind + ", " + wrong + ")", x.cost(kind, wrong), BAD);
            }
            Due.is("cost(" + kind + ", 12) after refused calls", x.cost(kind, 12), 11);
        }
    }

    private static void rangeAnswers() {
        Due.sentence("Promise 11: A VOICE's RANGE (36 .. 84, the lower one first): 1");
        for (int voice = 0; voice < 4; voice++) {
            ChoraleSearch x = new ChoraleSearch();
            Due.is("range(" + voice + ", 36, 84)", x.range(voice, 36, 84), 1);
            Due.is("range(" + voice + ", 36, 36)", x.range(voice, 36, 36), 1);
            Due.is("range(" + voice + ", 84, 84)", x.range(voice, 84, 84), 1);
            Due.is("range(" + voice + ", 60, 61)", x.range(voice, 60, 61), 1);
        }
    }

    private static void rangeEnds() {
        Due.sentence("Promise 11: BAD: none such");
        ChoraleSearch x = Setting.fresh(1);
        for (int wrong : Setting.outside(36, 84)) {
            Due.is("range(0, " + wrong + ", 84)", x.range(0, wrong, 84), BAD);
            Due.is("range(0, 36, " + wrong + ")", x.range(0, 36, wrong), BAD);
            Due.is("range(0, " + wrong + ", " + wrong + ")", x.range(0, wrong, wrong), BAD);
        }
        Due.is("range(0, 61, 60): the higher one first", x.range(0, 61, 60), BAD);
        Due.is("range(0, 84, 36)", x.range(0, 84, 36), BAD);
        Due.is("states(0) after refused calls", x.states(0), 60);
    }

    private static void rangeOfOnePitch() {
        Due.sentence("Promise 11: a RANGE of one PITCH, and one without a PITCH of the chord");
        ChoraleSearch x = Setting.fresh(1);
        x.range(0, 60, 60);
        Due.is("states(0) of soprano 60", x.states(0), 2);
        x.range(0, 61, 61);
        Due.is("states(0) of soprano 61", x.states(0), 0);
        x.range(0, 60, 61);
        Due.is("states(0) of soprano 60 .. 61", x.states(0), 2);
    }

    /** A chorale in which each telling call could change something that can be asked. */
    private static ChoraleSearch toBeRefused() {
        ChoraleSearch x = Setting.solved();
        x.fermata(0, true);
        x.inversion(0, 0);
        x.figure(2, 7);
        x.solve(0);
        return x;
    }

    private static int refused(ChoraleSearch x, int call, int wrong) {
        switch (call) {
            case 0:
                return x.key(7, wrong);
            case 1:
                return x.places(wrong);
            case 2:
                return x.given(1, 1, wrong);
            case 3:
                return x.free(0, wrong);
            case 4:
                return x.figure(wrong, -1);
            case 5:
                return x.inversion(0, wrong);
            case 6:
                return x.fermata(wrong, false);
            case 7:
                return x.style(wrong, false);
            case 8:
                return x.cost(4, wrong);
            default:
                return x.range(0, wrong, 84);
        }
    }

    private static void refusedCallsChangeNothing() {
        for (int call = 0; call < TELLING.length; call++) {
            Due.sentence("Promise " + (call + 2) + ": BAD: a refused " + TELLING[call] + "() changes nothing");
            ChoraleSearch x = toBeRefused();
            String before = Setting.look(x);
            for (int wrong : new int[] {-3, 1001, Integer.MIN_VALUE, Integer.MAX_VALUE}) {
                Due.is(TELLING[call] + " with " + wrong, refused(x, call, wrong), BAD);
            }
            Due.same("what is found, and all else", Setting.look(x), before);
            x.solve(0);
            Due.same("what is found anew", Setting.look(x), before);
        }
    }

    /** Calls that tell what has been told before. */
    private static int tellAgain(ChoraleSearch x, int call) {
        switch (call) {
            case 0:
                return x.key(0, 0);
            case 1:
                return x.places(4);
            case 2:
                return x.given(0, 0, 64);
            case 3:
                return x.free(1, 0);
            case 4:
                return x.figure(0, -1);
            case 5:
                return x.inversion(0, -1);
            case 6:
                return x.fermata(0, false);
            case 7:
                return x.style(0, true);
            case 8:
                return x.cost(0, 1);
            default:
                return x.range(0, 60, 81);
        }
    }

    private static void foundRowsAreGone() {
        int[] answers = {1, 4, 64, NONE, NONE, NONE, 0, 1, 1, 1};
        for (int call = 0; call < TELLING.length; call++) {
            Due.sentence("Promise 2: What was found is gone, here and below: " + TELLING[call] + "()");
            ChoraleSearch x = Setting.solved();
            Due.is("count(4)", x.count(4), 4);
            Due.is(TELLING[call], tellAgain(x, call), answers[call]);
            Due.is("count(4): rows found", x.count(4), 0);
            Due.is("sum(0)", x.sum(0), BAD);
            Due.is("note(0, 0, 0)", x.note(0, 0, 0), BAD);
            Due.is("chord(0, 0)", x.chord(0, 0), BAD);
            Due.is("least()", x.least(), BAD);
            Due.is("passing(0, 0)", x.passing(0, 0), BAD);
            Due.is("solve(0)", x.solve(0), 4);
            Due.is("sum(3)", x.sum(3), 4);
        }
    }

    private static void countEnds() {
        Due.sentence("Promise 21: BAD: another number");
        ChoraleSearch x = new ChoraleSearch();
        for (int wrong : Setting.outside(0, 5)) {
            Due.is("count(" + wrong + ")", x.count(wrong), BAD);
        }
        Due.is("count(0)", x.count(0), 0);
        Due.is("count(5)", x.count(5), 8);
    }

    private static void countNotes() {
        Due.sentence("Promise 21: 3 notes given");
        ChoraleSearch x = Setting.fresh(16);
        Due.is("count(3): none", x.count(3), 0);
        x.given(0, 0, 60);
        x.given(0, 0, 62);
        Due.is("count(3): one note told twice", x.count(3), 1);
        x.free(0, 1);
        Due.is("count(3): none freed", x.count(3), 1);
        x.given(3, 15, 36);
        Due.is("count(3): the last note", x.count(3), 2);
        x.free(0, 0);
        x.free(3, 15);
        Due.is("count(3): none again", x.count(3), 0);
    }

    private static void countRows() {
        Due.sentence("Promise 21: 4 rows found");
        ChoraleSearch x = Setting.solved();
        Due.is("count(4): four", x.count(4), 4);
        x.solve(1);
        Due.is("count(4): one", x.count(4), 1);
        x.solve(101);
        Due.is("count(4): the BEAM was refused", x.count(4), 1);
        x.given(1, 3, 61);
        x.solve(0);
        Due.is("count(4): none", x.count(4), 0);
        x.free(1, 3);
        x.free(0, 0);
        x.solve(0);
        Due.is("count(4): too many states", x.count(4), 0);
    }

    private static void memberEnds() {
        Due.sentence("Promise 22: BAD: no such CHORD, number");
        ChoraleSearch x = new ChoraleSearch();
        Due.is("member(0, 0)", x.member(0, 0), 0);
        Due.is("member(12, 3)", x.member(12, 3), 10);
        for (int wrong : Setting.outside(0, 12)) {
            Due.is("member(" + wrong + ", 0)", x.member(wrong, 0), BAD);
            Due.is("member(" + wrong + ", 3)", x.member(wrong, 3), BAD);
        }
        for (int wrong : Setting.outside(0, 3)) {
            Due.is("member(0, " + wrong + ")", x.member(0, wrong), BAD);
            Due.is("member(7, " + wrong + ")", x.member(7, wrong), BAD);
        }
        Due.is("member(12, 0): the style lacks it", x.member(12, 0), 0);
    }

    private static void memberSevenths() {
        Due.sentence("Promise 22: NONE: it has none");
        int[] sevenths = {NONE, NONE, NONE, NONE, NONE, NONE, NONE, 5, 0, NONE, 0, NONE, 10};
        ChoraleSearch x = new ChoraleSearch();
        for (int minor = 0; minor < 2; minor++) {
            x.key(0, minor);
            for (int chord = 0; chord < 13; chord++) {
                Due.is("member(" + chord + ", 3)", x.member(chord, 3), sevenths[chord]);
                Due.is("member(" + chord + ", 2) is there", x.member(chord, 2) >= 0 ? 1 : 0, 1);
            }
        }
    }
}
