/** The boundary cases of rows: their order, the limit of states, the beam, promises 12 to 20. */
public final class SearchEdgesTest {
    private static final int BAD = ChoraleSearch.BAD, NONE = ChoraleSearch.NONE, TOO_MANY = ChoraleSearch.TOO_MANY;

    public static void main(String[] args) {
        orderBySum();
        orderByPlaces();
        orderAtTheLastPlace();
        orderByVoices();
        orderByChord();
        fourHundredStates();
        fourHundredAndOneStates();
        tooManySomewhere();
        beamNumbers();
        beamKeepsTheFirst();
        beamOfEqualSums();
        beamPassesOverDeadEnds();
        beamOfOneHundred();
        beamLosesAllRows();
        solveNumbers();
        solveNone();
        solveAgain();
        solveSmallestAndLargest();
        solvedRowsStandAlone();
        solveRefused();
        noteEnds();
        chordEnds();
        sumEnds();
        leastWithoutRows();
        leastOfAll();
        leastWithABeam();
        statesEnds();
        statesAboveTheLimit();
        statesKeepRows();
        blockedEnds();
        blockedWithARow();
        blockedAtTheFirstPlace();
        blockedAtTheLastPlace();
        blockedAtTheFirstOfSeveral();
        blockedStateRules();
        blockedStepRules();
        blockedFromReachedStatesAlone();
        blockedTooMany();
        repairWithARow();
        repairNumbers();
        repairLeastFirst();
        repairNone();
        repairTooMany();
        repairFirstMet();
        repairChangesNothing();
        passingDistances();
        passingLowerFirst();
        passingNoPitch();
        passingEnds();
        Due.end();
    }

    private static int[] v(int s, int a, int t, int b) {
        return Setting.v(s, a, t, b);
    }

    /** I at one place with these notes, where 0 is a voice that is free. */
    private static ChoraleSearch tonic(int... notes) {
        ChoraleSearch x = Setting.fresh(1);
        for (int voice = 0; voice < 4; voice++) {
            if (notes[voice] != 0) {
                x.given(voice, 0, notes[voice]);
            }
        }
        return x;
    }

    private static void rowsAre(ChoraleSearch x, int beam, String... rows) {
        Due.is("solve(" + beam + ")", x.solve(beam), rows.length);
        for (int k = 0; k < rows.length; k++) {
            Due.same("row " + k, Setting.row(x, k), rows[k]);
        }
        Due.is("sum(" + rows.length + ")", x.sum(rows.length), BAD);
    }

    /** Two places with I on the same notes, the bass 48 or 60 at each. */
    private static ChoraleSearch twoBasses() {
        ChoraleSearch x = Setting.fresh(2);
        for (int i = 0; i < 2; i++) {
            Setting.put(x, i, 0, v(72, 67, 64, 48));
            x.free(3, i);
            x.inversion(i, 0);
        }
        return x;
    }

    private static void orderBySum() {
        Due.sentence("3: ORDER of rows: by SUM");
        rowsAre(tonic(64, 60, 0, 0), 0, "0 0:64,60,55,48", "4 0:64,60,48,48", "4 0:64,60,52,48", "4 0:64,60,60,48");
        rowsAre(twoBasses(), 0, "5 0:72,67,64,48 0:72,67,64,60", "5 0:72,67,64,60 0:72,67,64,48",
            "8 0:72,67,64,48 0:72,67,64,48", "8 0:72,67,64,60 0:72,67,64,60");
    }

    private static void orderByPlaces() {
        Due.sentence("3: ORDER of rows: then place by place");
        ChoraleSearch x = twoBasses();
        Setting.costOnly(x, -1);
        rowsAre(x, 0, "0 0:72,67,64,48 0:72,67,64,48", "0 0:72,67,64,48 0:72,67,64,60",
            "0 0:72,67,64,60 0:72,67,64,48", "0 0:72,67,64,60 0:72,67,64,60");
    }

    private static void orderAtTheLastPlace() {
        Due.sentence("3: ORDER of rows: place by place, where the last of 16 alone is another");
        ChoraleSearch x = Setting.fresh(16);
        StringBuilder same = new StringBuilder("0");
        for (int i = 0; i < 16; i++) {
            Setting.put(x, i, 0, v(72, 67, 64, 48));
            same.append(i < 15 ? " 0:72,67,64,48" : " 0:");
        }
        x.free(0, 15);
        Setting.costOnly(x, -1);
        rowsAre(x, 0, same + "67,67,64,48", same + "72,67,64,48", same + "76,67,64,48", same + "79,67,64,48");
        rowsAre(x, 2, same + "67,67,64,48", same + "72,67,64,48");
    }

    private static void orderByVoices() {
        Due.sentence("3: ORDER of rows: by PITCHES of VOICES 0 to 3 (lower first)");
        ChoraleSearch x = tonic(0, 67, 64, 48);
        Setting.costOnly(x, -1);
        rowsAre(x, 0, "0 0:67,67,64,48", "0 0:72,67,64,48", "0 0:76,67,64,48", "0 0:79,67,64,48");
        x = tonic(76, 0, 60, 48);
        Setting.costOnly(x, -1);
        rowsAre(x, 0, "0 0:76,64,60,48", "0 0:76,67,60,48", "0 0:76,72,60,48");
        x = tonic(76, 72, 0, 48);
        Setting.costOnly(x, -1);
        rowsAre(x, 0, "0 0:76,72,60,48", "0 0:76,72,64,48", "0 0:76,72,67,48");
        x = tonic(72, 67, 64, 0);
        Setting.costOnly(x, -1);
        rowsAre(x, 0, "0 0:72,67,64,48", "0 0:72,67,64,60");
        x = tonic(0, 0, 0, 0);
        Setting.costOnly(x, -1);
        rowsAre(x, 0, "0 0:60,55,52,48", "0 0:60,60,52,48", "0 0:64,55,48,48", "0 0:64,55,52,48");
    }

    private static void orderByChord() {
        Due.sentence("3: ORDER of rows: then by CHORD");
        ChoraleSearch x = Setting.fresh(3);
        x.key(0, 1);
        x.style(11, true);
        Setting.giveAll(x, 0, v(70, 67, 63, 51));
        Setting.put(x, 1, 5, v(72, 68, 63, 56));
        Setting.put(x, 2, 0, v(72, 67, 63, 48));
        Setting.costOnly(x, -1);
        Due.is("states(0): III and V OF VI on the same notes", x.states(0), 2);
        Due.is("solve(0)", x.solve(0), 2);
        Due.is("chord(0, 0)", x.chord(0, 0), 2);
        Due.is("chord(1, 0)", x.chord(1, 0), 11);
        x.cost(4, 1);
        Due.is("solve(0)", x.solve(0), 2);
        Due.is("chord(0, 0) by SUM", x.chord(0, 0), 11);
        Due.is("sum(1) - sum(0)", x.sum(1) - x.sum(0), 2);
    }

    /** Two places; the first has 400 states. */
    private static ChoraleSearch with400() {
        ChoraleSearch x = Setting.fresh(2);
        Setting.styleOnly(x, 0, 1, 3, 4);
        x.range(0, 60, 74);
        return x;
    }

    /** Two places; the first has 401 states. */
    private static ChoraleSearch with401() {
        ChoraleSearch x = Setting.fresh(2);
        Setting.styleOnly(x, 0, 2, 5);
        x.range(0, 60, 79);
        return x;
    }

    private static void fourHundredStates() {
        Due.sentence("3: A place has 400 STATES at most: 400");
        ChoraleSearch x = with400();
        Due.is("states(0)", x.states(0), 400);
        Due.is("solve(0)", x.solve(0), 4);
        Due.is("solve(100)", x.solve(100), 4);
        Due.is("blocked(0)", x.blocked(0), NONE);
        Due.is("repair()", x.repair(), BAD);
    }

    private static void fourHundredAndOneStates() {
        Due.sentence("Promise 12: TOO_MANY: a place has more than 400 STATES: 401");
        ChoraleSearch x = with401();
        Due.is("states(0)", x.states(0), 401);
        Due.is("solve(0)", x.solve(0), TOO_MANY);
        Due.is("solve(1)", x.solve(1), TOO_MANY);
        Due.is("solve(100)", x.solve(100), TOO_MANY);
        Due.is("count(4)", x.count(4), 0);
        Due.is("sum(0)", x.sum(0), BAD);
        Due.is("least()", x.least(), BAD);
        x.given(0, 0, 60);
        Due.is("solve(0) with a note given", x.solve(0), 4);
    }

    private static void tooManySomewhere() {
        Due.sentence("Promise 12: TOO_MANY: a place");
        for (int i = 0; i < 3; i++) {
            ChoraleSearch x = Setting.fresh(4);
            for (int other = 0; other < 3; other++) {
                x.figure(other, other == i ? -1 : 0);
            }
            Due.is("solve(0): place " + i, x.solve(0), TOO_MANY);
            x.given(0, (i + 1) % 3, 61);
            Due.is("solve(0): place " + i + ", though another has no state", x.solve(0), TOO_MANY);
            x.figure(i, 0);
            Due.is("solve(0): none has too many", x.solve(0), 0);
        }
    }

    private static void beamNumbers() {
        Due.sentence("Promise 12: (a BEAM of 1 .. 100; 0: of all). BAD: another BEAM");
        ChoraleSearch x = Setting.solved();
        Due.is("solve(0)", x.solve(0), 4);
        Due.is("solve(1)", x.solve(1), 1);
        Due.is("solve(100)", x.solve(100), 4);
        for (int wrong : Setting.outside(0, 100)) {
            Due.is("solve(" + wrong + ")", x.solve(wrong), BAD);
        }
        x = new ChoraleSearch();
        for (int wrong : Setting.outside(0, 100)) {
            Due.is("solve(" + wrong + ") with too many states", x.solve(wrong), BAD);
        }
    }

    private static void beamKeepsTheFirst() {
        Due.sentence("3: BEAM b: only the b are kept whose rest (from there on) comes first in ORDER");
        ChoraleSearch x = tonic(64, 60, 0, 0);
        rowsAre(x, 1, "0 0:64,60,55,48");
        rowsAre(x, 2, "0 0:64,60,55,48", "4 0:64,60,48,48");
        rowsAre(x, 3, "0 0:64,60,55,48", "4 0:64,60,48,48", "4 0:64,60,52,48");
        // In the order of pitches the sums are 4, 0, 2, ..
        rowsAre(tonic(72, 64, 0, 0), 2, "0 0:72,64,55,48", "2 0:72,64,60,48");
        for (int beam = 1; beam <= 60; beam++) {
            beamOfOnePlace(beam);
        }
        // At the last place the bass 48 comes first, so that alone is kept, whatever follows from it.
        rowsAre(twoBasses(), 1, "5 0:72,67,64,60 0:72,67,64,48");
        rowsAre(twoBasses(), 2, "5 0:72,67,64,48 0:72,67,64,60", "5 0:72,67,64,60 0:72,67,64,48",
            "8 0:72,67,64,48 0:72,67,64,48", "8 0:72,67,64,60 0:72,67,64,60");
    }

    /** At one place the rows that are kept are the first ones of all. */
    private static void beamOfOnePlace(int beam) {
        ChoraleSearch all = tonic(0, 0, 0, 0);
        all.solve(0);
        ChoraleSearch kept = tonic(0, 0, 0, 0);
        Due.is("solve(" + beam + ")", kept.solve(beam), Math.min(beam, 4));
        for (int k = 0; k < kept.count(4); k++) {
            Due.same("row " + k + " of solve(" + beam + ")", Setting.row(kept, k), Setting.row(all, k));
        }
    }

    private static void beamOfEqualSums() {
        Due.sentence("3: BEAM b: first in ORDER (of equal SUMS the lower PITCH)");
        ChoraleSearch x = tonic(72, 67, 64, 0);
        rowsAre(x, 1, "0 0:72,67,64,48");
        x = tonic(0, 67, 64, 48);
        Setting.costOnly(x, -1);
        rowsAre(x, 3, "0 0:67,67,64,48", "0 0:72,67,64,48", "0 0:76,67,64,48");
        x = twoBasses();
        Setting.costOnly(x, -1);
        rowsAre(x, 1, "0 0:72,67,64,48 0:72,67,64,48");
    }

    /** V with the bass 38, 43, 50 or 55; the lowest cannot go on to I, since it would move by 10. */
    private static ChoraleSearch withDeadEnd() {
        ChoraleSearch x = Setting.fresh(2);
        x.range(3, 36, 62);
        Setting.put(x, 0, 4, v(71, 62, 55, 43));
        x.free(3, 0);
        Setting.put(x, 1, 0, v(72, 64, 55, 48));
        Setting.costOnly(x, -1);
        return x;
    }

    private static void beamPassesOverDeadEnds() {
        Due.sentence("3: BEAM b: of the STATES that go on to the end");
        ChoraleSearch x = withDeadEnd();
        Due.is("states(0)", x.states(0), 4);
        rowsAre(x, 1, "0 4:71,62,55,43 0:72,64,55,48");
        Due.is("least() with two left out", x.least(), 0);
        rowsAre(x, 2, "0 4:71,62,55,43 0:72,64,55,48", "0 4:71,62,55,50 0:72,64,55,48");
        Due.is("least() with one left out", x.least(), 0);
        rowsAre(x, 3, "0 4:71,62,55,43 0:72,64,55,48", "0 4:71,62,55,50 0:72,64,55,48",
            "0 4:71,62,55,55 0:72,64,55,48");
        Due.is("least(): the one that does not go on is not left out", x.least(), 1);
    }

    private static void beamOfOneHundred() {
        Due.sentence("Promise 16: no STATE was left out: 100 of 100, 100 of 101");
        ChoraleSearch x = Setting.wide(1);
        x.range(0, 56, 76);
        Due.is("states(0)", x.states(0), 100);
        Due.is("solve(100)", x.solve(100), 4);
        Due.is("least()", x.least(), 1);
        Due.is("solve(99)", x.solve(99), 4);
        Due.is("least()", x.least(), 0);
        x.range(0, 41, 72);
        Due.is("states(0)", x.states(0), 101);
        Due.is("solve(100)", x.solve(100), 4);
        Due.is("least()", x.least(), 0);
    }

    private static void beamLosesAllRows() {
        Due.sentence("Promise 12: of those that are kept with a BEAM: 0: there is none");
        ChoraleSearch x = Setting.fresh(8);
        int[] chords = {0, 3, 9, 4, 7, 5, 4, 0};
        x.style(9, true);
        for (int i = 0; i < 8; i++) {
            x.figure(i, chords[i]);
        }
        int[] bass = {48, 53, 50, 55};
        for (int i = 0; i < 4; i++) {
            x.given(3, i, bass[i]);
        }
        Due.is("solve(5)", x.solve(5), 0);
        Due.is("count(4)", x.count(4), 0);
        Due.is("least()", x.least(), BAD);
        Due.is("note(0, 0, 0)", x.note(0, 0, 0), BAD);
        Due.is("blocked(0): there is a row", x.blocked(0), NONE);
        Due.is("repair(): there is a row", x.repair(), BAD);
        Due.is("solve(0)", x.solve(0), 4);
    }

    private static void solveNumbers() {
        Due.sentence("Promise 12: The first four rows in ORDER: how many there are of these");
        Due.is("none of none", tonic(61, 0, 0, 0).solve(0), 0);
        Due.is("one of one", tonic(60, 55, 0, 0).solve(0), 1);
        Due.is("two of two", tonic(67, 67, 0, 0).solve(0), 2);
        Due.is("three of three", tonic(64, 55, 0, 0).solve(0), 3);
        Due.is("four of four", tonic(0, 67, 64, 48).solve(0), 4);
        Due.is("four of five", tonic(64, 60, 0, 0).solve(0), 4);
        Due.is("four of sixty", tonic(0, 0, 0, 0).solve(0), 4);
        Due.is("four of sixty with a BEAM of 4", tonic(0, 0, 0, 0).solve(4), 4);
        Due.is("three of sixty with a BEAM of 3", tonic(0, 0, 0, 0).solve(3), 3);
        Due.is("one of one with a BEAM of 100", tonic(60, 55, 0, 0).solve(100), 1);
    }

    private static void solveNone() {
        Due.sentence("Promise 12: 0: there is none");
        ChoraleSearch x = Setting.solved();
        x.given(1, 1, 61);
        Due.is("solve(0): a place without STATES", x.solve(0), 0);
        Due.is("solve(1)", x.solve(1), 0);
        x.free(1, 1);
        x.figure(0, 4);
        x.free(0, 0);
        x.figure(1, 3);
        Due.is("solve(0): no STEP", x.solve(0), 0);
        Due.is("count(4)", x.count(4), 0);
        Due.is("sum(0)", x.sum(0), BAD);
    }

    private static void solveAgain() {
        Due.sentence("Promise 13: Row k of solve(): of the last one");
        ChoraleSearch x = Setting.solved();
        Due.is("sum(0)", x.sum(0), 3);
        x.solve(1);
        Due.is("sum(0)", x.sum(0), 4);
        Due.is("sum(1)", x.sum(1), BAD);
        Due.is("chord(1, 0)", x.chord(1, 0), BAD);
        Due.is("note(1, 0, 0)", x.note(1, 0, 0), BAD);
        x.solve(0);
        Due.is("sum(0)", x.sum(0), 3);
        Due.is("sum(3)", x.sum(3), 4);
    }

    private static void solveSmallestAndLargest() {
        Due.sentence("Promise 12: rows of 1 place and of 16");
        rowsAre(tonic(60, 55, 0, 0), 0, "0 0:60,55,52,48");
        ChoraleSearch x = Setting.fresh(16);
        StringBuilder row = new StringBuilder("120");
        for (int i = 0; i < 16; i++) {
            Setting.put(x, i, 0, v(72, 67, 64, 48));
            row.append(" 0:72,67,64,48");
        }
        Due.is("count(3)", x.count(3), 64);
        rowsAre(x, 0, row.toString());
        rowsAre(x, 1, row.toString());
        x = Setting.fresh(16);
        for (int i = 0; i < 16; i++) {
            x.given(0, i, 60);
        }
        Due.is("solve(0)", x.solve(0), 4);
        Due.is("sums rise", x.sum(0) <= x.sum(1) && x.sum(1) <= x.sum(2) && x.sum(2) <= x.sum(3) ? 1 : 0, 1);
        Due.is("note(0, 0, 15)", x.note(0, 0, 15), 60);
        Due.is("chord(0, 15)", x.chord(0, 15), 0);
    }

    /** Each row, given whole to an object of its own, is the one row there and has the same sum. */
    private static void standAlone(ChoraleSearch x, int minor) {
        String before = "";
        for (int k = 0; k < x.count(4); k++) {
            String row = Setting.row(x, k);
            ChoraleSearch alone = whole(row, minor);
            Due.is("solve(0) of row " + k, alone.solve(0), 1);
            Due.same("row " + k, Setting.row(alone, 0), row);
            Due.is("row " + k + " is the one before it", row.equals(before) ? 1 : 0, 0);
            before = row;
        }
    }

    /** A chorale with every chord and note of a row that Setting.row() has written. */
    private static ChoraleSearch whole(String row, int minor) {
        String[] parts = row.split("[ :]");
        int n = parts.length / 2;
        ChoraleSearch x = Setting.fresh(n);
        x.key(0, minor);
        for (int i = 0; i < n; i++) {
            String[] notes = parts[2 * i + 2].split(",");
            Setting.put(x, i, Integer.parseInt(parts[2 * i + 1]), v(Integer.parseInt(notes[0]),
                Integer.parseInt(notes[1]), Integer.parseInt(notes[2]), Integer.parseInt(notes[3])));
        }
        return x;
    }

    private static void solvedRowsStandAlone() {
        Due.sentence("3: A ROW has one STATE of each place, each next one by a STEP; its SUM is that of all COSTS");
        int[] melody = {67, 69, 71, 72, 69, 67, 65, 64, 62, 60};
        for (int n = 2; n <= melody.length; n += 2) {
            for (int beam = 0; beam <= 20; beam += 10) {
                ChoraleSearch x = Setting.fresh(n);
                for (int i = 0; i < n; i++) {
                    x.given(0, i, melody[melody.length - n + i]);
                }
                Due.is("solve(" + beam + ") of " + n, x.solve(beam), 4);
                standAlone(x, 0);
            }
        }
        ChoraleSearch x = Setting.fresh(4);
        x.key(0, 1);
        x.style(11, true);
        x.given(0, 0, 70);
        x.figure(1, 5);
        x.figure(2, 4);
        Due.is("solve(0) in minor", x.solve(0), 4);
        standAlone(x, 1);
    }

    private static void solveRefused() {
        Due.sentence("Promise 12: BAD: a refused solve() changes nothing");
        ChoraleSearch x = Setting.solved();
        x.solve(1);
        String before = Setting.look(x);
        Due.is("solve(101)", x.solve(101), BAD);
        Due.is("solve(-1)", x.solve(-1), BAD);
        Due.same("rows", Setting.look(x), before);
    }

    private static void noteEnds() {
        Due.sentence("Promise 13: BAD: none such");
        ChoraleSearch x = new ChoraleSearch();
        Due.is("note(0, 0, 0) before solve()", x.note(0, 0, 0), BAD);
        x = Setting.solved();
        Due.is("note(0, 0, 0): the first", x.note(0, 0, 0), 64);
        Due.is("note(3, 3, 3): the last", x.note(3, 3, 3), 48);
        for (int wrong : Setting.outside(0, 3)) {
            Due.is("note(" + wrong + ", 0, 0)", x.note(wrong, 0, 0), BAD);
            Due.is("note(0, " + wrong + ", 0)", x.note(0, wrong, 0), BAD);
            Due.is("note(0, 0, " + wrong + ")", x.note(0, 0, wrong), BAD);
        }
        x = tonic(67, 67, 0, 0);
        x.solve(0);
        Due.is("note(1, 3, 0) of two rows", x.note(1, 3, 0), 60);
        Due.is("note(2, 3, 0) of two rows", x.note(2, 3, 0), BAD);
        Due.is("note(0, 0, 1) of one place", x.note(0, 0, 1), BAD);
    }

    private static void chordEnds() {
        Due.sentence("Promise 14: BAD: none such");
        ChoraleSearch x = new ChoraleSearch();
        Due.is("chord(0, 0) before solve()", x.chord(0, 0), BAD);
        x = Setting.solved();
        Due.is("chord(0, 0): the first", x.chord(0, 0), 2);
        Due.is("chord(3, 3): the last", x.chord(3, 3), 0);
        for (int wrong : Setting.outside(0, 3)) {
            Due.is("chord(" + wrong + ", 0)", x.chord(wrong, 0), BAD);
            Due.is("chord(0, " + wrong + ")", x.chord(0, wrong), BAD);
        }
        x = tonic(67, 67, 0, 0);
        x.solve(0);
        Due.is("chord(1, 0) of two rows", x.chord(1, 0), 0);
        Due.is("chord(2, 0) of two rows", x.chord(2, 0), BAD);
        Due.is("chord(0, 1) of one place", x.chord(0, 1), BAD);
    }

    private static void sumEnds() {
        Due.sentence("Promise 15: BAD: none such");
        ChoraleSearch x = new ChoraleSearch();
        Due.is("sum(0) before solve()", x.sum(0), BAD);
        x = Setting.solved();
        Due.is("sum(0): the first", x.sum(0), 3);
        Due.is("sum(3): the last", x.sum(3), 4);
        for (int wrong : Setting.outside(0, 3)) {
            Due.is("sum(" + wrong + ")", x.sum(wrong), BAD);
        }
        x = tonic(67, 67, 0, 0);
        x.solve(0);
        Due.is("sum(1) of two rows", x.sum(1), 2);
        Due.is("sum(2) of two rows", x.sum(2), BAD);
    }

    private static void leastWithoutRows() {
        Due.sentence("Promise 16: BAD: there is none");
        ChoraleSearch x = new ChoraleSearch();
        Due.is("least() before solve()", x.least(), BAD);
        x.solve(0);
        Due.is("least() after TOO_MANY", x.least(), BAD);
        x = tonic(61, 0, 0, 0);
        x.solve(0);
        Due.is("least() after 0", x.least(), BAD);
        x.solve(1);
        Due.is("least() after 0 with a BEAM", x.least(), BAD);
    }

    private static void leastOfAll() {
        Due.sentence("Promise 16: 1 (BEAM 0)");
        ChoraleSearch x = Setting.solved();
        Due.is("least()", x.least(), 1);
        x.solve(1);
        Due.is("least() with a BEAM of 1", x.least(), 0);
        x.solve(0);
        Due.is("least() again", x.least(), 1);
        x = with400();
        x.solve(0);
        Due.is("least() of 400 states", x.least(), 1);
    }

    private static void leastWithABeam() {
        Due.sentence("Promise 16: or no STATE was left out), 0");
        ChoraleSearch x = tonic(0, 0, 0, 0);
        x.solve(60);
        Due.is("least(): 60 of 60 states", x.least(), 1);
        x.solve(59);
        Due.is("least(): 59 of 60 states", x.least(), 0);
        x.solve(61);
        Due.is("least(): more than there are", x.least(), 1);
        x = tonic(60, 55, 0, 0);
        x.solve(1);
        Due.is("least(): 1 of 1 state", x.least(), 1);
        // The last place alone leaves one out, the first one has but one state.
        x = twoBasses();
        x.given(3, 0, 48);
        x.solve(1);
        Due.is("least(): 1 of 2 states at the last place", x.least(), 0);
        x.solve(2);
        Due.is("least(): 2 of 2 states", x.least(), 1);
    }

    private static void statesEnds() {
        Due.sentence("Promise 17: BAD: no such place");
        for (int n = 1; n <= 16; n += 3) {
            ChoraleSearch x = Setting.fresh(n);
            Due.is("states(0) of " + n, x.states(0), n == 1 ? 60 : 981);
            Due.is("states of the last of " + n, x.states(n - 1), 60);
            for (int wrong : Setting.outside(0, n - 1)) {
                Due.is("states(" + wrong + ") of " + n, x.states(wrong), BAD);
            }
        }
    }

    private static void statesAboveTheLimit() {
        Due.sentence("Promise 17: STATES of a place (above 400 too)");
        Due.is("400", with400().states(0), 400);
        Due.is("401", with401().states(0), 401);
        ChoraleSearch x = Setting.wide(4);
        for (int chord = 0; chord < 13; chord++) {
            x.style(chord, true);
        }
        Due.is("as many as there can be in major", x.states(0), 3269);
        Due.is("as many as there can be at the last place", x.states(3), 164);
        x.key(0, 1);
        Due.is("as many as there can be in minor", x.states(0), 3332);
        x.given(0, 0, 61);
        Due.is("none", x.states(0), 0);
    }

    private static void statesKeepRows() {
        Due.sentence("Promise 2: up to solve() (what comes after it tells nothing)");
        ChoraleSearch x = Setting.solved();
        x.states(0);
        x.blocked(2);
        x.repair();
        x.count(4);
        x.member(0, 0);
        x.passing(0, 0);
        Due.is("count(4)", x.count(4), 4);
        Due.same("row 0", Setting.row(x, 0), "3 2:64,59,55,43 1:65,57,53,50 7:62,55,53,47 0:60,55,52,48");
    }

    private static void blockedEnds() {
        Due.sentence("Promise 18: BAD: another number");
        ChoraleSearch[] all = {Setting.solved(), tonic(61, 0, 0, 0), new ChoraleSearch()};
        for (ChoraleSearch x : all) {
            for (int wrong : Setting.outside(0, 2)) {
                Due.is("blocked(" + wrong + ")", x.blocked(wrong), BAD);
            }
        }
    }

    private static void blockedWithARow() {
        Due.sentence("Promise 18: NONE: there is a row");
        ChoraleSearch x = Setting.solved();
        for (int what = 0; what < 3; what++) {
            Due.is("blocked(" + what + ")", x.blocked(what), NONE);
            Due.is("blocked(" + what + ") of one place", tonic(60, 55, 52, 48).blocked(what), NONE);
        }
        x.cost(0, 5);
        Due.is("blocked(0) without solve()", x.blocked(0), NONE);
    }

    private static void blockedAtTheFirstPlace() {
        Due.sentence("Promise 18: 0 the first place to which none comes from the first one: the first itself");
        ChoraleSearch x = tonic(61, 0, 0, 0);
        Due.is("blocked(0) of one place", x.blocked(0), 0);
        Due.is("blocked(1)", x.blocked(1), 0);
        Due.is("blocked(2)", x.blocked(2), 0);
        x = Setting.solved();
        x.given(0, 0, 61);
        Due.is("blocked(0) of four", x.blocked(0), 0);
        Due.is("blocked(1)", x.blocked(1), 0);
        Due.is("blocked(2)", x.blocked(2), 0);
    }

    private static void blockedAtTheLastPlace() {
        Due.sentence("Promise 18: When no row goes from the first place to the last: at the last itself");
        ChoraleSearch x = Setting.fresh(16);
        for (int i = 0; i < 16; i++) {
            Setting.put(x, i, 0, v(72, 67, 64, 48));
        }
        x.given(3, 15, 52);
        Due.is("blocked(0)", x.blocked(0), 15);
        Due.is("blocked(1)", x.blocked(1), 0);
        Due.is("blocked(2)", x.blocked(2), 1 << 6);
        x.given(3, 15, 48);
        x.given(0, 15, 64);
        x.given(1, 15, 64);
        x.given(2, 15, 55);
        Due.is("blocked(0)", x.blocked(0), 15);
        Due.is("blocked(1)", x.blocked(1), 1);
        Due.is("blocked(2): the soprano goes below what the alto had", x.blocked(2), 1 << 10);
    }

    private static void blockedAtTheFirstOfSeveral() {
        Due.sentence("Promise 18: 0 the first place to which none comes");
        ChoraleSearch x = Setting.fresh(4);
        x.figure(0, 4);
        x.figure(1, 3);
        x.given(0, 2, 61);
        Due.is("blocked(0): no STEP to 1, no STATE at 2", x.blocked(0), 1);
        Due.is("blocked(1)", x.blocked(1), 160);
        x.figure(0, 0);
        Due.is("blocked(0): no STATE at 2", x.blocked(0), 2);
        Due.is("blocked(1)", x.blocked(1), 0);
        x.given(0, 0, 61);
        Due.is("blocked(0): no STATE at 0 and 2", x.blocked(0), 0);
        x.free(0, 0);
        x.figure(0, 4);
        x.figure(2, 4);
        x.free(0, 2);
        Due.is("blocked(0): 2 could be reached from 1", x.blocked(0), 1);
    }

    private static void blockedStateRules() {
        Due.sentence("Promise 18: without STATES those of 3 to 6 that bar some STATE that keeps 1 and 2");
        ChoraleSearch x = Setting.fresh(2);
        Setting.put(x, 0, 0, v(72, 67, 64, 48));
        x.given(0, 0, 64);
        x.given(1, 0, 67);
        Due.is("3 alone", x.blocked(2), 1 << 3);
        x.fermata(0, true);
        Due.is("3 alone with a FERMATA on I", x.blocked(2), 1 << 3);
        Setting.put(x, 0, 3, v(65, 69, 60, 53));
        Due.is("3 and 6", x.blocked(2), 1 << 3 | 1 << 6);
        Setting.put(x, 0, 3, v(65, 72, 60, 53));
        Due.is("3, 4 and 6 on one STATE", x.blocked(2), 1 << 3 | 1 << 4 | 1 << 6);
        // Without the tenor some STATES have what is missing, others do not.
        x.fermata(0, false);
        x.free(2, 0);
        Due.is("3 and 4", x.blocked(2), 1 << 3 | 1 << 4);
        x = Setting.fresh(2);
        Setting.put(x, 0, 7, v(71, 65, 59, 55));
        Due.is("5 alone", x.blocked(2), 1 << 5);
        x.range(0, 60, 70);
        Due.is("a note outside of its RANGE: none keeps 1 and 2", x.blocked(2), 0);
        x.range(0, 60, 81);
        x.inversion(0, 1);
        Due.is("another inversion: none keeps 1 and 2", x.blocked(2), 0);
        x = Setting.fresh(2);
        x.figure(0, 4);
        x.given(3, 0, 43);
        x.inversion(0, 1);
        Due.is("the bass against the inversion: none keeps 1 and 2", x.blocked(2), 0);
        x.given(3, 0, 47);
        x.given(0, 0, 71);
        Due.is("DEGREE 11 in soprano and bass: 3, 4 and 5", x.blocked(2), 1 << 3 | 1 << 4 | 1 << 5);
        x = tonic(64, 67, 60, 48);
        Due.is("3 alone at the last place", x.blocked(2), 1 << 3);
        x = tonic(0, 0, 0, 52);
        Due.is("3 to 6 at the last place", x.blocked(2), 1 << 3 | 1 << 4 | 1 << 5 | 1 << 6);
        Due.is("its place", x.blocked(0), 0);
    }

    private static void blockedStepRules() {
        Due.sentence("Promise 18: else those of 7 to 12 that bar some STEP to its STATES (RULE r is bit r)");
        ChoraleSearch x = Setting.fresh(2);
        Setting.put(x, 0, 9, v(69, 66, 62, 50));
        Setting.put(x, 1, 0, v(72, 67, 64, 48));
        Due.is("7 alone", x.blocked(2), 1 << 7);
        Setting.put(x, 0, 4, v(71, 67, 62, 55));
        Setting.put(x, 1, 0, v(67, 64, 60, 48));
        Due.is("11 alone", x.blocked(2), 1 << 11);
        Setting.put(x, 0, 7, v(65, 62, 59, 55));
        Setting.put(x, 1, 0, v(67, 64, 60, 48));
        Due.is("12 alone", x.blocked(2), 1 << 12);
        Setting.put(x, 1, 0, v(72, 67, 64, 48));
        Due.is("8, 10 and 12 on one STEP", x.blocked(2), 1 << 8 | 1 << 10 | 1 << 12);
        // Of the two basses the one breaks 9, the other none but 12.
        Setting.put(x, 0, 7, v(77, 71, 67, 62));
        Setting.put(x, 1, 0, v(79, 72, 64, 48));
        x.free(3, 1);
        Due.is("states(1)", x.states(1), 2);
        Due.is("9 to one STATE, 12 to both", x.blocked(2), 1 << 9 | 1 << 12);
        Due.is("its place", x.blocked(0), 1);
        Due.is("its STATES", x.blocked(1), 2);
    }

    /** The bass 62 of the second place is not reached from 48; from it rule 10 would bar, too. */
    private static void blockedFromReachedStatesAlone() {
        Due.sentence("Promise 18: from those of the place before to which rows come");
        ChoraleSearch x = Setting.fresh(3);
        Setting.put(x, 0, 0, v(72, 67, 64, 48));
        Setting.put(x, 1, 1, v(69, 65, 65, 50));
        x.free(3, 1);
        x.inversion(1, 0);
        Setting.put(x, 2, 0, v(76, 67, 60, 60));
        Due.is("states(1)", x.states(1), 2);
        Due.is("blocked(0)", x.blocked(0), 2);
        Due.is("blocked(1)", x.blocked(1), 1);
        Due.is("blocked(2)", x.blocked(2), 1 << 9);
        x.given(3, 0, 60);
        Due.is("blocked(2): 62 is reached, 50 is not", x.blocked(2), 1 << 10);
        x.given(3, 0, 48);
        x.given(3, 1, 50);
        Due.is("states(1): 62 is there no more", x.states(1), 1);
        Due.is("blocked(2)", x.blocked(2), 1 << 9);
    }

    private static void blockedTooMany() {
        Due.sentence("Promise 18: TOO_MANY: more than 400 STATES at some place");
        ChoraleSearch x = with401();
        for (int what = 0; what < 3; what++) {
            Due.is("blocked(" + what + ")", x.blocked(what), TOO_MANY);
        }
        x = Setting.fresh(3);
        x.given(0, 0, 61);
        Due.is("blocked(0): no STATE before it", x.blocked(0), TOO_MANY);
        x.figure(1, 0);
        Due.is("blocked(0): no more", x.blocked(0), 0);
        Due.is("400 are not too many", with400().blocked(0), NONE);
    }

    private static void repairWithARow() {
        Due.sentence("Promise 19: BAD: there is a row as it is");
        Due.is("repair()", Setting.solved().repair(), BAD);
        Due.is("repair() of one place", tonic(60, 55, 52, 48).repair(), BAD);
        Due.is("repair() with nothing given", tonic(0, 0, 0, 0).repair(), BAD);
        ChoraleSearch x = Setting.solved();
        x.cost(0, 0);
        Due.is("repair() without solve()", x.repair(), BAD);
    }

    private static void repairNumbers() {
        Due.sentence("Promise 19: The given note (place times 4, and VOICE)");
        for (int voice = 0; voice < 4; voice++) {
            ChoraleSearch x = tonic(72, 67, 64, 48);
            x.given(voice, 0, 61);
            Due.is("one place, voice " + voice, x.repair(), voice);
        }
        for (int i = 0; i < 16; i += 5) {
            for (int voice = 0; voice < 4; voice += 3) {
                ChoraleSearch x = Setting.fresh(16);
                for (int other = 0; other < 16; other++) {
                    Setting.put(x, other, 0, v(72, 67, 64, 48));
                }
                x.given(voice, i, 61);
                Due.is("place " + i + ", voice " + voice, x.repair(), i * 4 + voice);
            }
        }
    }

    private static void repairLeastFirst() {
        Due.sentence("Promise 19: least number first");
        ChoraleSearch x = Setting.fresh(2);
        Setting.put(x, 0, 3, v(72, 69, 65, 53));
        Setting.put(x, 1, 0, v(76, 67, 60, 48));
        Due.is("tenor and bass go in octaves: the tenor before", x.repair(), 2);
        Due.is("free(2, 0)", x.free(2, 0), 65);
        Due.is("repair(): there is a row", x.repair(), BAD);
        x.given(2, 0, 65);
        x.free(2, 1);
        Due.is("repair(): without the tenor after it there is one, too", x.repair(), BAD);
        // Neither note is wrong by itself: soprano and alto stand 15 apart.
        x = tonic(79, 64, 0, 0);
        Due.is("the soprano before the alto", x.repair(), 0);
        x.range(0, 79, 79);
        Due.is("the alto, where the soprano has no other note", x.repair(), 1);
    }

    private static void repairNone() {
        Due.sentence("Promise 19: NONE: no such one");
        ChoraleSearch x = Setting.fresh(2);
        x.figure(0, 4);
        x.figure(1, 4);
        Due.is("no note is given", x.repair(), NONE);
        x = tonic(61, 61, 0, 0);
        Due.is("two wrong notes at one place", x.repair(), NONE);
        x = Setting.fresh(2);
        Setting.put(x, 0, 0, v(72, 67, 64, 48));
        Setting.put(x, 1, 0, v(72, 67, 64, 48));
        x.given(0, 0, 61);
        x.given(3, 1, 49);
        Due.is("two wrong notes at two places", x.repair(), NONE);
        x.given(0, 0, 72);
        Due.is("one of them", x.repair(), 7);
        x.figure(1, 5);
        Due.is("no note, but the CHORD is wrong", x.repair(), NONE);
        x = Setting.fresh(16);
        for (int i = 0; i < 16; i++) {
            Setting.put(x, i, 0, v(72, 67, 64, 48));
        }
        x.given(2, 15, 61);
        x.given(3, 15, 49);
        Due.is("none of 64 notes", x.repair(), NONE);
    }

    private static void repairTooMany() {
        Due.sentence("Promise 19: TOO_MANY: more than 400 STATES at some place, with it or without one");
        Due.is("with it", with401().repair(), TOO_MANY);
        ChoraleSearch x = with401();
        x.given(0, 0, 61);
        Due.is("states(0)", x.states(0), 0);
        Due.is("401 without it", x.repair(), TOO_MANY);
        x = with400();
        x.given(0, 0, 61);
        Due.is("400 without it", x.repair(), 0);
        x = with400();
        x.given(0, 1, 61);
        Due.is("400 with it, at another place", x.repair(), 4);
        x = Setting.fresh(3);
        x.given(0, 0, 61);
        Due.is("with it, at another place", x.repair(), TOO_MANY);
    }

    private static void repairFirstMet() {
        Due.sentence("Promise 19: TOO_MANY: (the first that is met)");
        // Place 0 has 401 states without its note; the wrong note is at the last place.
        ChoraleSearch x = with401();
        x.given(0, 0, 60);
        x.given(0, 1, 61);
        Due.is("too many without the first note", x.repair(), TOO_MANY);
        // The wrong note is met before the one without which there are too many.
        x = Setting.fresh(3);
        Setting.styleOnly(x, 0, 2, 5);
        x.range(0, 60, 79);
        x.figure(0, 0);
        x.given(0, 0, 61);
        x.given(0, 1, 64);
        Due.is("a row without the first note", x.repair(), 0);
        x.given(0, 0, 64);
        x.given(0, 2, 61);
        Due.is("too many without the second, the wrong one is the third", x.repair(), TOO_MANY);
        x.free(0, 2);
        Due.is("a row as it is, whatever is without", x.repair(), BAD);
    }

    private static void repairChangesNothing() {
        Due.sentence("Promise 19: repair() tells, and changes nothing");
        ChoraleSearch x = tonic(72, 67, 61, 48);
        Due.is("repair()", x.repair(), 2);
        Due.is("repair() again", x.repair(), 2);
        Due.is("count(3)", x.count(3), 4);
        Due.is("states(0)", x.states(0), 0);
        Due.is("solve(0)", x.solve(0), 0);
        Due.is("free(2, 0)", x.free(2, 0), 61);
        x.given(2, 0, 61);
        x.given(1, 0, 61);
        Due.is("repair(): none", x.repair(), NONE);
        Due.is("free(1, 0)", x.free(1, 0), 61);
    }

    /** Two whole places, the second one I, solved. */
    private static ChoraleSearch pair(int minor, int chord, int[] first, int[] last) {
        ChoraleSearch x = Setting.fresh(2);
        x.key(0, minor);
        Setting.put(x, 0, chord, first);
        Setting.put(x, 1, 0, last);
        Due.is("solve(0)", x.solve(0), 1);
        return x;
    }

    private static void passingDistances() {
        Due.sentence("Promise 20: VOICE moves by 3 or 4. NONE: no such move");
        ChoraleSearch x = pair(0, 0, v(64, 55, 52, 48), v(64, 55, 52, 48));
        Due.is("by 0", x.passing(0, 0), NONE);
        x = pair(0, 2, v(64, 59, 52, 43), v(64, 60, 52, 48));
        Due.is("by 1", x.passing(0, 1), NONE);
        Due.is("by 5", x.passing(0, 3), NONE);
        x = pair(0, 1, v(62, 53, 50, 41), v(60, 55, 52, 48));
        Due.is("by 2 down", x.passing(0, 0), NONE);
        Due.is("by 2 up", x.passing(0, 1), NONE);
        Due.is("by 7", x.passing(0, 3), NONE);
        x = pair(0, 0, v(64, 55, 52, 48), v(67, 55, 52, 48));
        Due.is("by 3 up, from E to G", x.passing(0, 0), 65);
        x = pair(0, 0, v(67, 55, 48, 40), v(64, 55, 48, 48));
        Due.is("by 3 down, from G to E", x.passing(0, 0), 65);
        Due.is("by 8", x.passing(0, 3), NONE);
        x = pair(0, 1, v(62, 53, 50, 45), v(60, 55, 52, 48));
        Due.is("by 3 up, from A to C", x.passing(0, 3), 47);
        x = pair(0, 0, v(60, 55, 48, 40), v(60, 55, 52, 48));
        Due.is("by 4 up, from C to E", x.passing(0, 2), 50);
        x = pair(0, 2, v(64, 59, 52, 43), v(60, 55, 52, 48));
        Due.is("by 4 down, from E to C", x.passing(0, 0), 62);
        Due.is("by 4 down, from B to G", x.passing(0, 1), 57);
    }

    private static void passingLowerFirst() {
        Due.sentence("Promise 20: (one or two from the lower one) whose CLASS is in the KEY, the lower one first");
        ChoraleSearch x = Setting.fresh(4);
        Setting.put(x, 0, 4, v(62, 59, 55, 50));
        Setting.put(x, 1, 12, v(60, 55, 52, 46));
        Setting.put(x, 2, 3, v(60, 53, 53, 45));
        Due.is("solve(0)", x.solve(0) > 0 ? 1 : 0, 1);
        Due.is("from D to B flat, B and C between", x.passing(0, 3), 47);
        x = Setting.fresh(3);
        x.key(0, 1);
        Setting.put(x, 0, 9, v(62, 54, 50, 42));
        Setting.put(x, 1, 9, v(62, 54, 50, 45));
        x.figure(2, 0);
        x.places(4);
        x.figure(2, 4);
        Due.is("solve(0) of minor", x.solve(0) > 0 ? 1 : 0, 1);
        Due.is("from F sharp to A, G and A flat between", x.passing(0, 3), 43);
        x = pair(1, 0, v(60, 55, 51, 43), v(63, 55, 51, 48));
        Due.is("from C to E flat: D", x.passing(0, 0), 62);
    }

    private static void passingNoPitch() {
        Due.sentence("Promise 20: NONE: no such PITCH (minor 0 2 3 5 7 8 11)");
        ChoraleSearch x = Setting.fresh(3);
        x.key(0, 1);
        Setting.put(x, 0, 3, v(68, 65, 60, 53));
        Setting.put(x, 1, 4, v(71, 62, 55, 55));
        Setting.put(x, 2, 0, v(72, 63, 55, 48));
        Due.is("solve(0)", x.solve(0), 1);
        Due.is("from A flat to B: neither A nor B flat", x.passing(0, 0), NONE);
        Due.is("from F to D: E flat", x.passing(0, 1), 63);
        x = Setting.fresh(3);
        x.key(1, 1);
        Setting.put(x, 0, 3, v(69, 66, 61, 54));
        Setting.put(x, 1, 4, v(72, 63, 56, 56));
        Setting.put(x, 2, 0, v(73, 64, 56, 49));
        Due.is("solve(0), a semitone higher", x.solve(0), 1);
        Due.is("from A to C: none", x.passing(0, 0), NONE);
        Due.is("from F sharp to D sharp: E", x.passing(0, 1), 64);
    }

    private static void passingEnds() {
        Due.sentence("Promise 20: BAD: no row, no such place, VOICE");
        ChoraleSearch x = new ChoraleSearch();
        Due.is("passing(0, 0) before solve()", x.passing(0, 0), BAD);
        x = Setting.solved();
        Due.is("passing(2, 3): the last step", x.passing(2, 3), NONE);
        for (int wrong : Setting.outside(0, 2)) {
            Due.is("passing(" + wrong + ", 0)", x.passing(wrong, 0), BAD);
        }
        for (int wrong : Setting.outside(0, 3)) {
            Due.is("passing(0, " + wrong + ")", x.passing(0, wrong), BAD);
        }
        x.given(1, 3, 61);
        x.solve(0);
        Due.is("passing(0, 0) after 0", x.passing(0, 0), BAD);
        x = tonic(60, 55, 0, 0);
        x.solve(0);
        Due.is("passing(0, 0) of one place", x.passing(0, 0), BAD);
    }
}
