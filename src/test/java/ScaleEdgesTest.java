/** The edges that the document names of SCALES, what they SHARE, and WAYS: promises 13 to 16. */
public final class ScaleEdgesTest {
    private static final int BAD = -1, NONE = -9;
    private static final int LOW = Integer.MIN_VALUE, HIGH = Integer.MAX_VALUE;
    /** Each SCALE SHARES its upper PART with the SCALE a root above. */
    private static final String CHAIN = "c1;m0 0 0;";

    public static void main(String[] args) {
        notesOfCells();
        noteInTwoParts();
        notesAskedFor();
        highestNotes();
        partsShared();
        partsOfTheFirst();
        sharesWithItself();
        sharesNone();
        sharesAsked();
        wayToItself();
        wayToTheNext();
        longWay();
        noWay();
        wayAsked();
        lowestSecond();
        lowestThird();
        nextMustShare();
        farthestAlone();
        farthestAtBothEnds();
        lowestOfTheFarthest();
        farthestAsked();
        Check.report();
    }

    private static void due(String call, int got, int want) {
        Check.due(call, got, want);
    }

    /** "its notes, put at a PITCH: that, and each time the next STEP above". */
    private static void notesOfCells() {
        ModeCells x = Check.told("c1 2 3 4;m0;", 2);
        for (int root = 0; root < 24; root++) {
            for (int above = -1; above <= 11; above++) {
                boolean is = above == 0 || above == 1 || above == 3 || above == 6 || above == 10;
                if (root + above >= 0) {
                    due("has " + root + " " + above, x.has(root, root + above), is ? 1 : 0);
                }
            }
        }
    }

    /** "In how many PARTS": two, where a GAP is 0. */
    private static void noteInTwoParts() {
        ModeCells x = Check.told("c2;m0 0 0 1 0 0 0;", 2);
        int[] parts = {1, 0, 2, 0, 1, 1, 0, 2, 0, 1, 0};
        for (int note = 0; note < parts.length; note++) {
            due("has 0 " + note, x.has(0, note), parts[note]);
            due("has 23 " + (23 + note), x.has(23, 23 + note), parts[note]);
        }
        due("has 1 0", x.has(1, 0), 0);
    }

    /** "a NOTE (0 .. 60)"; "BAD". */
    private static void notesAskedFor() {
        ModeCells x = Check.told("c4 4 4 4;m0 3 0 3 0 3 0;", 2);
        due("has 0 0", x.has(0, 0), 1);
        due("has 3 60", x.has(3, 60), 1);
        due("has 0 60", x.has(0, 60), 0);
        for (int note : new int[] {-1, 61, 64, 73, LOW, HIGH}) {
            due("has 0 " + note, x.has(0, note), BAD);
            due("has 23 " + note, x.has(23, note), BAD);
            due("no scale has " + note, x.has(24, note), BAD);
        }
        due("no scale", x.has(24, 0), BAD);
        due("no scale", x.has(-1, 0), BAD);
    }

    /** A PART may be beyond all NOTES of tunes; it is there all the same. */
    private static void highestNotes() {
        ModeCells x = Check.told("c4 4 4 4;c1;m0 3 0 3 0 3 0;m0 3 0 3 0 3 1;m1;", 5);
        due("pitch 80", x.part(23, 3, 1), 80);
        due("pitch 80", x.part(47, 3, 1), 80);
        due("other cell at 80", x.shares(23, 47, -1), 3);
        due("last shared", x.shares(23, 47, 2), 2);
        due("not the fourth", x.shares(23, 47, 3), NONE);
        due("not the fourth", x.shares(47, 71, -1), 0);
        due("way", x.way(23, 47, -1), 2);
    }

    /** "if it is the same CELL at the same PITCH in both". */
    private static void partsShared() {
        ModeCells x = Check.told("c2;c2;m0;m1;m0 0 0;", 5);
        due("same cell, same pitch", x.shares(5, 48 + 5, -1), 1);
        due("same cell, same pitch", x.shares(5, 48 + 3, -1), 1);
        due("same cell, other pitch", x.shares(5, 6, -1), 0);
        due("same cell, other pitch", x.shares(5, 48 + 4, -1), 0);
        due("other cell, same pitch", x.shares(5, 24 + 5, -1), 0);
        due("other cell, same pitch", x.shares(24 + 5, 48 + 5, -1), 0);
    }

    /** "the k-th of these (0 on; PARTS of the first one)". */
    private static void partsOfTheFirst() {
        ModeCells x = Check.told("c1;c2;m0 1 1 0 0 1 0;m0 0 0;", 4);
        // Mode 0 on 0: cell 0 at 0, cell 1 at 2, cell 0 at 4, cell 0 at 6; mode 1 on 4: cell 0 at 4 and 5.
        due("one shared", x.shares(0, 24 + 4, -1), 1);
        due("the third of the first", x.shares(0, 24 + 4, 0), 2);
        due("the first of the other", x.shares(24 + 4, 0, 0), 0);
        due("the last of the first", x.shares(0, 24 + 5, 0), 3);
        due("the second of the other", x.shares(24 + 5, 0, 0), 1);
        // Mode 0 on 2: cell 0 at 2, cell 1 at 4, cell 0 at 6 and 8.
        due("on another root", x.shares(0, 2, -1), 1);
        due("on another root", x.shares(0, 2, 0), 3);
        due("on another root", x.shares(2, 0, 0), 2);
    }

    private static void sharesWithItself() {
        ModeCells x = Check.told("c1;m0;m0 2 0 2 0 2 0;", 3);
        due("one", x.shares(23, 23, -1), 1);
        due("the one", x.shares(23, 23, 0), 0);
        due("four", x.shares(47, 47, -1), 4);
        for (int k = 0; k < 4; k++) {
            due("of four", x.shares(47, 47, k), k);
        }
        due("no fifth", x.shares(47, 47, 4), NONE);
    }

    /** "NONE: there are not so many": none at all. */
    private static void sharesNone() {
        ModeCells x = Check.told("c1;m0;", 2);
        due("none", x.shares(0, 1, -1), 0);
        due("none, the first", x.shares(0, 1, 0), NONE);
        due("none, high", x.shares(0, 1, HIGH), NONE);
    }

    /** "BAD (k below -1)", and no such SCALE. */
    private static void sharesAsked() {
        ModeCells x = Check.told("c1;m0;", 2);
        for (int k : new int[] {-2, -3, LOW}) {
            due("k " + k, x.shares(0, 0, k), BAD);
            due("k " + k, x.shares(0, 1, k), BAD);
        }
        for (int scale : new int[] {-1, 24, LOW, HIGH}) {
            for (int k : new int[] {-2, -1, 0, 5}) {
                due("no first", x.shares(scale, 0, k), BAD);
                due("no other", x.shares(0, scale, k), BAD);
                due("neither", x.shares(scale, scale, k), BAD);
            }
        }
    }

    /** "1: from one to itself". */
    private static void wayToItself() {
        ModeCells x = Check.told(CHAIN, 2);
        for (int scale = 0; scale < 24; scale++) {
            due("to itself", x.way(scale, scale, -1), 1);
            due("to itself, 0", x.way(scale, scale, 0), scale);
            due("to itself, 1", x.way(scale, scale, 1), NONE);
        }
    }

    private static void wayToTheNext() {
        ModeCells x = Check.told(CHAIN, 2);
        due("up", x.way(22, 23, -1), 2);
        due("up, 0", x.way(22, 23, 0), 22);
        due("up, 1", x.way(22, 23, 1), 23);
        due("up, 2", x.way(22, 23, 2), NONE);
        due("down", x.way(1, 0, -1), 2);
        due("down, 0", x.way(1, 0, 0), 1);
        due("down, 1", x.way(1, 0, 1), 0);
        due("down, 2", x.way(1, 0, 2), NONE);
    }

    private static void longWay() {
        ModeCells x = Check.told(CHAIN, 2);
        due("up", x.way(0, 23, -1), 24);
        due("down", x.way(23, 0, -1), 24);
        for (int k = 0; k < 24; k++) {
            due("up " + k, x.way(0, 23, k), k);
            due("down " + k, x.way(23, 0, k), 23 - k);
        }
        due("up 24", x.way(0, 23, 24), NONE);
        due("down 24", x.way(23, 0, 24), NONE);
        due("up high", x.way(0, 23, HIGH), NONE);
    }

    /** "NONE (there is no WAY, too)": for how many, as well. */
    private static void noWay() {
        ModeCells x = Check.told("c1;c1;m0 1 0;m1 1 1;", 4);
        int[][] pairs = {{0, 1}, {0, 24}, {24, 0}, {0, 23}, {24, 25}};
        for (int[] pair : pairs) {
            for (int k : new int[] {-1, 0, 1, HIGH}) {
                due("no way " + pair[0] + " " + pair[1] + " " + k, x.way(pair[0], pair[1], k), NONE);
            }
            due("no way, but bad", x.way(pair[0], pair[1], -2), BAD);
        }
        due("a way", x.way(0, 22, -1), 12);
    }

    /** "BAD (k below -1)", and no such SCALE. */
    private static void wayAsked() {
        ModeCells x = Check.told(CHAIN, 2);
        for (int k : new int[] {-2, -3, LOW}) {
            due("k " + k, x.way(0, 0, k), BAD);
            due("k " + k, x.way(0, 5, k), BAD);
        }
        for (int scale : new int[] {-1, 24, LOW, HIGH}) {
            for (int k : new int[] {-2, -1, 0, 5}) {
                due("no from", x.way(scale, 0, k), BAD);
                due("no to", x.way(0, scale, k), BAD);
                due("neither", x.way(scale, scale, k), BAD);
            }
        }
    }

    /** "of those with the fewest SCALES that whose second one is the lowest". */
    private static void lowestSecond() {
        // Modes 0 and 2 are single cells; modes 1 and 3 join two, the second 2 above the first.
        ModeCells x = Check.told("c1;m0;m0 1 0;m0;m0 1 0;", 5);
        due("from 4 to 6", x.way(4, 6, -1), 3);
        due("from 4 to 6, lower of the two", x.way(4, 6, 1), 24 + 4);
        due("from 6 to 4, lower of the two", x.way(6, 4, 1), 24 + 4);
        // From 28 (4 and 6) to 32 (8 and 10) by 6 and 8: mode 1 on 6, or mode 3 on 6.
        due("from 28 to 32", x.way(28, 32, -1), 3);
        due("from 28 to 32", x.way(28, 32, 1), 24 + 6);
        due("from 32 to 28", x.way(32, 28, 1), 24 + 6);
        // From 3's joined pair on 4 to its pair on 6, which share the cell at 6: nothing between.
        due("from 76 to 78", x.way(72 + 4, 72 + 6, -1), 2);
    }

    /** "then the third ..". */
    private static void lowestThird() {
        // The second is mode 0's or mode 1's pair; so is the third, whatever the second one was.
        ModeCells x = Check.told("c1;m0 1 0;m0 1 0;m0;", 4);
        due("from 48 to 54", x.way(48, 54, -1), 5);
        int[] up = {48, 0, 2, 4, 54};
        int[] down = {54, 4, 2, 0, 48};
        for (int k = 0; k < 5; k++) {
            due("up " + k, x.way(48, 54, k), up[k]);
            due("down " + k, x.way(54, 48, k), down[k]);
        }
        // A low second one must not be taken where only a higher one leads on as shortly.
        ModeCells y = Check.told("c1;c2;c3;m0 0 1;m0;m0 0 2;m2;", 7);
        due("24 is next to 0", y.way(0, 24, -1), 2);
        due("48 is next to 0", y.way(0, 48, -1), 2);
        due("by the one that leads on", y.way(0, 72 + 1, -1), 3);
        due("by the one that leads on", y.way(0, 72 + 1, 1), 48);
        due("by the one that leads on", y.way(0, 72 + 1, 2), 73);
    }

    /** "each of which SHARES a PART with the next": as near to the end is not enough. */
    private static void nextMustShare() {
        ModeCells x = Check.told("c1;c1;c1;m0 0 2;m1;m1 0 2;m2;", 7);
        // 5 and 53 are both next to 78 by cell 2 at 6; 29 is cell 1 at 5 alone, which 53 has, and 5 has not.
        due("5 is next to the end", x.way(5, 78, -1), 2);
        due("53 is next to the end", x.way(53, 78, -1), 2);
        due("how many", x.way(29, 78, -1), 3);
        due("by the one that shares", x.way(29, 78, 1), 53);
        due("5 is farther", x.way(29, 5, -1), 3);
    }

    /** None but itself: one SCALE, and that. */
    private static void farthestAlone() {
        ModeCells x = Check.told("c1;m0;", 2);
        for (int scale = 0; scale < 24; scale++) {
            due("alone", x.farthest(scale, 0), 1);
            due("alone", x.farthest(scale, 1), scale);
        }
    }

    private static void farthestAtBothEnds() {
        ModeCells x = Check.told(CHAIN, 2);
        for (int scale = 0; scale < 24; scale++) {
            boolean up = scale < 12;
            due("farthest of " + scale, x.farthest(scale, 0), up ? 24 - scale : scale + 1);
            due("farthest of " + scale, x.farthest(scale, 1), up ? 23 : 0);
        }
    }

    /** "the lowest SCALE that is so far". */
    private static void lowestOfTheFarthest() {
        ModeCells x = Check.told("c1;m0 0 0;m0 0 0;", 3);
        due("from 0", x.farthest(0, 0), 24);
        due("from 0: 23 and 47 are so far", x.farthest(0, 1), 23);
        due("from 24: 23 and 47 are so far", x.farthest(24, 1), 23);
        due("from 47: 0 and 24 are so far", x.farthest(47, 1), 0);
        ModeCells y = Check.told("c4 4 4;m0 0 0;", 2);
        due("from 12: 0 alone", y.farthest(12, 0), 2);
        due("from 12: 0 alone", y.farthest(12, 1), 0);
        due("from 11: 23 alone", y.farthest(11, 1), 23);
        ModeCells z = Check.told("c4 4;m0 0 0;", 2);
        due("from 8: 0 and 16 are so far", z.farthest(8, 0), 2);
        due("from 8: 0 and 16 are so far", z.farthest(8, 1), 0);
    }

    /** "BAD". */
    private static void farthestAsked() {
        ModeCells x = Check.told(CHAIN, 2);
        for (int what : new int[] {-1, 2, LOW, HIGH}) {
            due("what " + what, x.farthest(0, what), BAD);
            due("what " + what, x.farthest(24, what), BAD);
        }
        for (int scale : new int[] {-1, 24, LOW, HIGH}) {
            due("no scale", x.farthest(scale, 0), BAD);
            due("no scale", x.farthest(scale, 1), BAD);
        }
    }
}
