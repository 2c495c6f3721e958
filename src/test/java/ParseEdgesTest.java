/** The edges that the document names of PARSES, FIT and HOME: promises 17 to 21. */
public final class ParseEdgesTest {
    private static final int BAD = -1, NONE = -9;
    private static final int LOW = Integer.MIN_VALUE, HIGH = Integer.MAX_VALUE;
    /** On a ROOT r: r and r + 1 in PART 0, r + 2 and r + 3 in PART 1, which is PART 0 on r + 2. */
    private static final String PAIRS = "c1;m0 1 0;";

    public static void main(String[] args) {
        parseOfNoNotes();
        oneNoteCostsNothing();
        noNoteBeyondTheRoots();
        parseAsked();
        parsedAsked();
        partChanges();
        samePartCostsNothing();
        partAndScaleChangeAtOnce();
        scaleChangesInTheSharedCell();
        lastPartOfTheLastScale();
        notSharedIsNoWay();
        sameStepsAreNotShared();
        sharedByTwoPartsOfIt();
        manyScaleChanges();
        manyPartChanges();
        leastCostBeatsLowScale();
        lowestScaleFirst();
        lowestPartThen();
        secondNoteThen();
        noParse();
        parseComesAndGoes();
        twoDeedsBetween();
        reachEdges();
        reachAcross();
        fitEdges();
        homeEdges();
        nothingIsChanged();
        Check.report();
    }

    private static void due(String call, int got, int want) {
        Check.due(call, got, want);
    }

    private static ModeCells played(String text, int items, int... notes) {
        ModeCells x = Check.told(text, items);
        Check.play(x, notes);
        return x;
    }

    /** The COST's two kinds, and each NOTE's SCALE and PART. */
    private static void parses(String where, ModeCells x, int scales, int parts, int... spots) {
        due(where + ": cost", x.parse(0), 10 * scales + parts);
        due(where + ": scales", x.parse(1), scales);
        due(where + ": parts", x.parse(2), parts);
        due(where + ": notes", x.count(2), spots.length / 2);
        for (int k = 0; k < spots.length / 2; k++) {
            due(where + ": scale of " + k, x.parsed(k, 0), spots[2 * k]);
            due(where + ": part of " + k, x.parsed(k, 1), spots[2 * k + 1]);
        }
        due(where + ": reach", x.reach(), spots.length / 2);
    }

    private static void hasNone(String where, ModeCells x, int reach) {
        for (int what = 0; what <= 2; what++) {
            due(where + ": parse " + what, x.parse(what), NONE);
        }
        for (int k = 0; k < x.count(2); k++) {
            due(where + ": parsed " + k, x.parsed(k, 0), NONE);
            due(where + ": parsed " + k, x.parsed(k, 1), NONE);
        }
        due(where + ": reach", x.reach(), reach);
    }

    /** "(Of no NOTES: 0.)": with MODES, with none, and when all have gone. */
    private static void parseOfNoNotes() {
        parses("new", new ModeCells(), 0, 0);
        parses("cells alone", Check.told("c1;", 1), 0, 0);
        ModeCells x = Check.told(PAIRS, 2);
        parses("modes", x, 0, 0);
        x.keep(0);
        x.plays(60);
        hasNone("60", x, 0);
        x.cuts();
        parses("cut", x, 0, 0);
        x.undo();
        hasNone("undone", x, 0);
        x.back(0);
        parses("back", x, 0, 0);
    }

    /** "(Of the first NOTE any SCALE, any PART.)"; "so at the first NOTE nothing is changed". */
    private static void oneNoteCostsNothing() {
        for (int note = 0; note <= 26; note++) {
            ModeCells x = played(PAIRS, 2, note);
            // The lowest root: the note is r + 3, as far as there is such a root.
            int root = Math.max(note - 3, 0);
            int part = note - root >= 2 ? 1 : 0;
            parses("note " + note, x, 0, 0, root, part);
        }
    }

    /** The highest note of all, and the one above it. */
    private static void noNoteBeyondTheRoots() {
        hasNone("27", played(PAIRS, 2, 27), 0);
        hasNone("60", played(PAIRS, 2, 60), 0);
        hasNone("no modes", played("c1;", 1, 0), 0);
        hasNone("nothing told", played("", 0, 0), 0);
        ModeCells x = played("c4 4 4 4;m0 3 0 3 0 3 0;", 2, 60);
        parses("60 is r + 57", x, 0, 0, 3, 3);
    }

    /** "BAD": ahead of NONE. */
    private static void parseAsked() {
        ModeCells x = Check.told(PAIRS, 2);
        for (int what : new int[] {-1, 3, LOW, HIGH}) {
            due("of no notes, what " + what, x.parse(what), BAD);
        }
        x.plays(0);
        for (int what : new int[] {-1, 3, LOW, HIGH}) {
            due("of a note, what " + what, x.parse(what), BAD);
        }
        x.plays(60);
        for (int what : new int[] {-1, 3, LOW, HIGH}) {
            due("none, what " + what, x.parse(what), BAD);
        }
    }

    /** "NONE: there is none. BAD", which is ahead of it. */
    private static void parsedAsked() {
        ModeCells x = Check.told(PAIRS, 2);
        due("of no notes", x.parsed(0, 0), BAD);
        Check.play(x, 0, 1);
        int[] noNotes = {-1, 2, 15, 16, LOW, HIGH};
        int[] noWhats = {-1, 2, LOW, HIGH};
        for (int round = 0; round < 2; round++) {
            for (int k : noNotes) {
                due("note " + k, x.parsed(k, 0), BAD);
                due("note " + k, x.parsed(k, 1), BAD);
            }
            for (int what : noWhats) {
                due("what " + what, x.parsed(0, what), BAD);
                due("what " + what, x.parsed(1, what), BAD);
            }
            x.mends(1, 60);
        }
        due("none", x.parsed(0, 0), NONE);
        due("none", x.parsed(1, 1), NONE);
    }

    /** "first the PART may change, SCALE being the same (COST 1, if it is another PART)". */
    private static void partChanges() {
        parses("up", played(PAIRS, 2, 0, 3), 0, 1, 0, 0, 0, 1);
        parses("down", played(PAIRS, 2, 3, 0), 0, 1, 0, 1, 0, 0);
        ModeCells x = played("c1;m0 2 0 2 0 2 0;", 2, 0, 10);
        parses("from the first to the last", x, 0, 1, 0, 0, 0, 3);
        x.plays(3);
        parses("and to the second", x, 0, 2, 0, 0, 0, 3, 0, 1);
    }

    private static void samePartCostsNothing() {
        parses("same note", played(PAIRS, 2, 0, 0, 0), 0, 0, 0, 0, 0, 0, 0, 0);
        parses("same part", played(PAIRS, 2, 0, 1, 0), 0, 0, 0, 0, 0, 0, 0, 0);
        ModeCells x = played("c2;m0 0 0;", 2, 0, 2, 4);
        // 2 is in both parts: it is in the first one as late as may be.
        parses("in two parts", x, 0, 1, 0, 0, 0, 0, 0, 1);
    }

    /** "then the SCALE, too (both: 11), if the PART that it is by then is SHARED". */
    private static void partAndScaleChangeAtOnce() {
        ModeCells x = played(PAIRS, 2, 0, 2, 4);
        parses("0 2 4", x, 1, 2, 0, 0, 2, 0, 2, 1);
        ModeCells y = played(PAIRS, 2, 26, 24, 22);
        parses("26 24 22", y, 1, 2, 23, 1, 21, 1, 21, 0);
        ModeCells z = played(PAIRS, 2, 4, 2, 0);
        parses("4 2 0, to scale 0", z, 1, 2, 2, 1, 0, 1, 0, 0);
    }

    /** "COST 10, if it is another SCALE": the PART's number may be another one at no COST. */
    private static void scaleChangesInTheSharedCell() {
        ModeCells x = played(PAIRS, 2, 0, 2, 3, 5);
        parses("0 2 3 5", x, 1, 2, 0, 0, 0, 1, 2, 0, 2, 1);
        ModeCells y = played(PAIRS, 2, 0, 2, 3, 2, 5);
        parses("0 2 3 2 5", y, 1, 2, 0, 0, 0, 1, 0, 1, 2, 0, 2, 1);
    }

    /** The highest SCALE and PART that there can be, as the first NOTE's and as a later one's. */
    private static void lastPartOfTheLastScale() {
        ModeCells x = Check.told("c1;c2;m1;m1;m1;m1;m1;m0 3 0 3 0 3 0;", 8);
        // The last scale has 23 24, 27 28, 31 32 and 35 36.
        x.plays(36);
        parses("36", x, 0, 0, 143, 3);
        x.plays(27);
        parses("36 27", x, 0, 1, 143, 3, 143, 1);
        x.plays(36);
        parses("36 27 36", x, 0, 2, 143, 3, 143, 1, 143, 3);
        x.plays(37);
        hasNone("37 is beyond", x, 3);
    }

    /** A SCALE that SHARES a PART which the NOTE is not in can't be changed to at that NOTE. */
    private static void notSharedIsNoWay() {
        hasNone("0 4", played(PAIRS, 2, 0, 4), 1);
        hasNone("0 1 4", played(PAIRS, 2, 0, 1, 4), 2);
        hasNone("0 5", played(PAIRS, 2, 0, 5), 1);
        // 1 is in root 0 or 1: 1 2 has root 1, which has 3 4, too.
        parses("1 4", played(PAIRS, 2, 1, 4), 0, 1, 1, 0, 1, 1);
    }

    /** "the same CELL at the same PITCH": another CELL with the same STEPS is not it. */
    private static void sameStepsAreNotShared() {
        ModeCells x = played("c1;c4;c4;m0 1 1;m2 0 0;", 5, 0, 6, 7);
        // 0 is on mode 0's root 0 alone: 0 1 and 2 6. 6 7 is behind cell 2 at 2 on mode 1's root 2.
        hasNone("other cell", x, 2);
        ModeCells y = played("c1;c4;c4;m0 1 1;m1 0 0;", 5, 0, 6, 7);
        parses("same cell", y, 1, 2, 0, 0, 26, 0, 26, 1);
    }

    /** Mode 1 has the same CELL twice; by its PITCH it is told which of them is SHARED. */
    private static void sharedByTwoPartsOfIt() {
        ModeCells x = played("c1;c4;m1 1 0;m0 1 0 1 1;", 4, 0, 5, 11);
        // Mode 0 on 0: 0 4 and 5 6. Mode 1 on 3: 3 4, 5 6 and 7 11; on 5: 5 6, 7 8 and 9 13.
        parses("the middle one", x, 1, 2, 0, 0, 24 + 3, 1, 24 + 3, 2);
        x.mends(2, 13);
        parses("the first one", x, 1, 2, 0, 0, 24 + 5, 0, 24 + 5, 2);
    }

    /** As many changes as the ROOTS allow. */
    private static void manyScaleChanges() {
        ModeCells x = Check.told(PAIRS, 2);
        int[] spots = new int[26];
        for (int k = 0; k < 13; k++) {
            x.plays(2 * k);
            spots[2 * k] = Math.min(2 * k, 22);
            spots[2 * k + 1] = k == 12 ? 1 : 0;
        }
        parses("0 2 .. 24", x, 11, 12, spots);
        x.plays(26);
        hasNone("26 is beyond", x, 13);
        Check.play(x, 0, 2);
        hasNone("16 notes", x, 13);
    }

    /** 16 NOTES, each in another PART than the one ahead. */
    private static void manyPartChanges() {
        ModeCells x = Check.told("c1;m0 2 0;", 2);
        int[] spots = new int[32];
        for (int k = 0; k < 16; k++) {
            x.plays(k % 2 == 0 ? 20 : 23);
            spots[2 * k] = 19;
            spots[2 * k + 1] = k % 2;
        }
        // On 20: 20 21 and 23 24; on 19: 19 20 and 22 23.
        parses("20 23 20 23 ..", x, 0, 15, spots);
    }

    /** "that of the least COST", ahead of what is lowest. */
    private static void leastCostBeatsLowScale() {
        ModeCells x = played("c1;c3;m0 1 0;m1;", 4, 0, 3);
        // Mode 0 on 0 costs 1; mode 1 on 0 has both in one part.
        parses("0 3", x, 0, 0, 24, 0, 24, 0);
        x.plays(1);
        parses("0 3 1", x, 0, 2, 0, 0, 0, 1, 0, 0);
    }

    /** "of several that by which the first NOTE has the lowest SCALE". */
    private static void lowestScaleFirst() {
        ModeCells x = played("c3;m0;m0;", 3, 7);
        parses("7", x, 0, 0, 4, 0);
        x.plays(10);
        parses("7 10", x, 0, 0, 7, 0, 7, 0);
        ModeCells y = played("c1;c2;m1;m0;", 4, 5, 6);
        parses("5 6", y, 0, 0, 29, 0, 29, 0);
    }

    /** "then PART". */
    private static void lowestPartThen() {
        ModeCells x = played("c2;m0 0 0 0 0;", 2, 2);
        // 2 is on root 0 in parts 0 and 1.
        parses("2", x, 0, 0, 0, 0);
        x.plays(2);
        parses("2 2", x, 0, 0, 0, 0, 0, 0);
        x.plays(4);
        parses("2 2 4", x, 0, 0, 0, 1, 0, 1, 0, 1);
    }

    /** "then the second one ..": SCALE and PART of the first one being the same. */
    private static void secondNoteThen() {
        ModeCells x = played("c2;m0 0 0 0 0;", 2, 0, 2, 4, 6);
        // 0 is in part 0; 2 in 0 or 1, 4 in 1 or 2; 6 in 2: one change, if it is from 0 to 2.
        parses("0 2 4 6", x, 0, 1, 0, 0, 0, 0, 0, 2, 0, 2);
        x.cuts();
        parses("0 2 4", x, 0, 1, 0, 0, 0, 0, 0, 1);
        // Both pairs of a mode told twice lead on: the lower one of the second note's.
        ModeCells y = played("c1;m0 1 0;m0 1 0;", 3, 0, 2, 4);
        parses("told twice", y, 1, 2, 0, 0, 2, 0, 2, 1);
        // The second note is in both parts: it stays in the lower one, and the third one changes.
        ModeCells z = played("c1;c2;m0 0 0;m1;", 4, 1, 2, 3);
        parses("1 2 3", z, 0, 1, 1, 0, 1, 0, 1, 1);
    }

    /** "NONE: there is none": at the first NOTE, between, at the last. */
    private static void noParse() {
        hasNone("at the first", played(PAIRS, 2, 60, 0, 1), 0);
        hasNone("between", played(PAIRS, 2, 0, 60, 1), 1);
        hasNone("at the last", played(PAIRS, 2, 0, 1, 60), 2);
        hasNone("from one to the next", played("c1;m0;", 2, 0, 2), 1);
    }

    /** THE PARSE is of THE TUNE as it is, whatever was done to it. */
    private static void parseComesAndGoes() {
        ModeCells x = played(PAIRS, 2, 0, 3);
        parses("played", x, 0, 1, 0, 0, 0, 1);
        x.mends(1, 1);
        parses("mended", x, 0, 0, 0, 0, 0, 0);
        x.mends(1, 9);
        hasNone("mended", x, 1);
        x.undo();
        parses("undone", x, 0, 0, 0, 0, 0, 0);
        x.moves(4);
        parses("moved", x, 0, 0, 2, 1, 2, 1);
        x.keep(0);
        x.cuts();
        parses("cut", x, 0, 0, 1, 1);
        x.back(0);
        parses("back", x, 0, 0, 2, 1, 2, 1);
        Check.type(x, "c1;m0;");
        x.modes();
        Check.play(x, 4, 5);
        parses("anew", x, 0, 0, 4, 0, 4, 0);
    }

    /** Whichever two deeds come between two PARSES, the second one is of what THE TUNE is then. */
    private static void twoDeedsBetween() {
        for (int first = 0; first < 6; first++) {
            for (int second = 0; second < 6; second++) {
                ModeCells x = played("c4;m0;", 2, 5, 9);
                x.keep(0);
                x.moves(1);
                parses("ahead", x, 0, 0, 6, 0, 6, 0);
                deed(x, first);
                deed(x, second);
                isParsedAsNew(first + " and " + second, x);
            }
        }
    }

    private static void deed(ModeCells x, int which) {
        switch (which) {
            case 0 -> x.plays(6);
            case 1 -> x.cuts();
            case 2 -> x.mends(0, 10);
            case 3 -> x.moves(-2);
            case 4 -> x.undo();
            default -> x.back(0);
        }
    }

    /** The same NOTES on a new object have the same PARSE. */
    private static void isParsedAsNew(String where, ModeCells x) {
        ModeCells y = Check.told("c4;m0;", 2);
        for (int k = 0; k < x.count(2); k++) {
            y.plays(x.note(k));
        }
        for (int what = 0; what <= 2; what++) {
            due(where + ": parse " + what, x.parse(what), y.parse(what));
        }
        due(where + ": reach", x.reach(), y.reach());
        for (int k = 0; k < x.count(2); k++) {
            due(where + ": scale of " + k, x.parsed(k, 0), y.parsed(k, 0));
            due(where + ": part of " + k, x.parsed(k, 1), y.parsed(k, 1));
        }
    }

    /** "from the first one on"; "as many as can be". */
    private static void reachEdges() {
        due("of no modes", played("c1;", 1, 0, 1).reach(), 0);
        due("of no notes", Check.told(PAIRS, 2).reach(), 0);
        ModeCells x = Check.told(PAIRS, 2);
        for (int n = 1; n <= 16; n++) {
            x.plays(n % 2);
            due("all of " + n, x.reach(), n);
        }
        for (int k = 15; k >= 0; k--) {
            x.mends(k, 60);
            due("up to " + k, x.reach(), k);
        }
    }

    /** The first NOTE may have to be in another SCALE for more NOTES to have a PARSE. */
    private static void reachAcross() {
        ModeCells x = played("c1;c4;m0;m1;", 4, 3, 4);
        due("3 4 in mode 0", x.reach(), 2);
        x.plays(7);
        due("3 7 would be in mode 1, but 4 is not", x.reach(), 2);
        x.mends(1, 7);
        due("3 7 7 in mode 1", x.reach(), 3);
    }

    /** "how many NOTES of THE TUNE are in some PART of it". */
    private static void fitEdges() {
        ModeCells x = Check.told("c2;m0 0 0;m0;", 3);
        due("no notes", x.fit(0), 0);
        for (int n = 1; n <= 16; n++) {
            x.plays(2);
            due("in two parts, each counts once", x.fit(0), n);
            due("in one part", x.fit(24), n);
            due("in no part", x.fit(1), 0);
        }
        for (int scale : new int[] {-1, 48, LOW, HIGH}) {
            due("no scale", x.fit(scale), BAD);
        }
        x.mends(0, 4);
        x.mends(1, 0);
        x.mends(2, 5);
        due("one out", x.fit(0), 15);
        due("two out", x.fit(24), 14);
        due("highest root", x.fit(23), 0);
    }

    /** "the SCALE with the most FIT, of several the lowest; NONE: there are no MODES". */
    private static void homeEdges() {
        due("new", new ModeCells().home(), NONE);
        due("cells alone", played("c1;", 1, 3).home(), NONE);
        ModeCells x = Check.told("c2;c1;m0;m1;m0;", 5);
        due("no notes", x.home(), 0);
        x.plays(60);
        due("in none", x.home(), 0);
        x.plays(24);
        due("24 is 22's", x.home(), 22);
        x.plays(23);
        due("23 24 are mode 1's", x.home(), 24 + 23);
        x.plays(25);
        due("23 24 25: mode 0 on 23 has two as well", x.home(), 23);
        x.plays(24);
        due("twice 24", x.home(), 47);
    }

    /** "(Nothing is changed.)" by asking. */
    private static void nothingIsChanged() {
        ModeCells x = played(PAIRS, 2, 0, 2, 4);
        x.sees(3, 1);
        Check.type(x, "c1");
        for (int round = 0; round < 3; round++) {
            due("fit", x.fit(0), 2);
            due("home", x.home(), 0);
            due("unseen", x.unseen(), 1);
            parses("round " + round, x, 1, 2, 0, 0, 2, 0, 2, 1);
            due("seen", x.count(3), 1);
            due("text", x.count(4), 2);
            due("undo", x.count(5), 3);
            Check.tune("round " + round, x, 0, 2, 4);
        }
    }
}
