/** Chorales that several tests set up. */
final class Setting {
    /** The numbers that are farthest from all that the document names. */
    private static final int LEAST = Integer.MIN_VALUE, MOST = Integer.MAX_VALUE;

    private Setting() {
    }

    static ChoraleSearch fresh(int places) {
        ChoraleSearch x = new ChoraleSearch();
        x.places(places);
        return x;
    }

    /** Every voice may go from the lowest pitch to the highest. */
    static ChoraleSearch wide(int places) {
        ChoraleSearch x = fresh(places);
        for (int voice = 0; voice < 4; voice++) {
            x.range(voice, 36, 84);
        }
        return x;
    }

    /** Four pitches, soprano first. */
    static int[] v(int s, int a, int t, int b) {
        return new int[] {s, a, t, b};
    }

    /** A place with its chord and all of its notes. */
    static void put(ChoraleSearch x, int i, int chord, int[] notes) {
        x.style(chord, true);
        x.figure(i, chord);
        giveAll(x, i, notes);
    }

    static void giveAll(ChoraleSearch x, int i, int[] notes) {
        for (int voice = 0; voice < 4; voice++) {
            x.given(voice, i, notes[voice]);
        }
    }

    /** The soprano E F D C in C major, whose first four rows are known. */
    static ChoraleSearch solved() {
        ChoraleSearch x = new ChoraleSearch();
        int[] soprano = {64, 65, 62, 60};
        for (int i = 0; i < 4; i++) {
            x.given(0, i, soprano[i]);
        }
        x.solve(0);
        return x;
    }

    static void styleOnly(ChoraleSearch x, int... chords) {
        for (int chord = 0; chord < 13; chord++) {
            x.style(chord, false);
        }
        for (int chord : chords) {
            x.style(chord, true);
        }
    }

    /** One kind costs 1, all others nothing; -1: all of them nothing. */
    static void costOnly(ChoraleSearch x, int kind) {
        for (int k = 0; k < 9; k++) {
            x.cost(k, k == kind ? 1 : 0);
        }
    }

    /** Numbers outside of low .. high: the next ones and the farthest. */
    static int[] outside(int low, int high) {
        return new int[] {low - 1, high + 1, LEAST, MOST};
    }

    /** All that can be asked without telling anything: two objects that answer alike look alike. */
    static String look(ChoraleSearch x) {
        StringBuilder seen = new StringBuilder();
        for (int what = 0; what < 6; what++) {
            seen.append(x.count(what)).append(' ');
        }
        for (int i = 0; i < x.count(2); i++) {
            seen.append(x.states(i)).append(' ');
        }
        for (int chord = 0; chord < 13; chord++) {
            seen.append(x.member(chord, 0)).append(' ').append(x.member(chord, 1)).append(' ');
        }
        for (int k = 0; k < x.count(4); k++) {
            seen.append(row(x, k)).append("; ");
        }
        return seen.append(x.least()).append(' ').append(x.blocked(0)).append(' ').append(x.repair()).toString();
    }

    /** A row with its sum: each place as chord and pitches. */
    static String row(ChoraleSearch x, int k) {
        StringBuilder seen = new StringBuilder();
        seen.append(x.sum(k));
        for (int i = 0; i < x.count(2); i++) {
            seen.append(' ').append(x.chord(k, i)).append(':');
            for (int voice = 0; voice < 4; voice++) {
                seen.append(voice == 0 ? "" : ",").append(x.note(k, voice, i));
            }
        }
        return seen.toString();
    }
}
