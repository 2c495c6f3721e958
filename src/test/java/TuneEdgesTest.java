import java.util.ArrayList;
import java.util.List;

/** The edges that the document names of THE TUNE, of what is UNDONE and of IMAGES: promises 7 to 12, 25, 26. */
public final class TuneEdgesTest {
    private static final int BAD = -1, STATE = -2, FULL = -3;
    private static final int LOW = Integer.MIN_VALUE, HIGH = Integer.MAX_VALUE;
    private static final int[] NO_NOTES = {-1, 61, -61, 120, LOW, HIGH};

    public static void main(String[] args) {
        notesMayBe();
        notesAtMost();
        noneToCut();
        cutsToNone();
        mendsNoSuchNote();
        mendsToNoNote();
        mendsToTheSame();
        mendsEachPlace();
        movesMayBe();
        movesBeyond();
        movesNone();
        movesByNothing();
        noneToUndo();
        eachDeedIsUndone();
        refusedIsNotUndone();
        tenAreKnown();
        knownGoesRound();
        undoIsNotUndone();
        noSuchNote();
        noSuchImage();
        noneWasKept();
        imageOfNone();
        imageOfMost();
        imagesAreTwo();
        imageStays();
        nothingUndoneBehindBack();
        backLeavesTheRest();
        lastCallOfAll();
        Check.report();
    }

    private static void due(String call, int got, int want) {
        Check.due(call, got, want);
    }

    private static ModeCells played(int... notes) {
        ModeCells x = new ModeCells();
        Check.play(x, notes);
        return x;
    }

    private static ModeCells fullTune() {
        ModeCells x = new ModeCells();
        for (int n = 0; n < 16; n++) {
            x.plays(n);
        }
        return x;
    }

    /** "NOTES (0 .. 60)"; "BAD". */
    private static void notesMayBe() {
        for (int note = 0; note <= 60; note++) {
            ModeCells x = new ModeCells();
            due("plays " + note, x.plays(note), 1);
            Check.tune("plays " + note, x, note);
        }
        for (int note : NO_NOTES) {
            ModeCells x = new ModeCells();
            due("plays " + note, x.plays(note), BAD);
            Check.tune("plays " + note, x);
            due("plays " + note + ": undo", x.count(5), 0);
        }
    }

    /** "16 at most"; "FULL: 16", behind BAD. */
    private static void notesAtMost() {
        ModeCells x = new ModeCells();
        for (int n = 1; n <= 16; n++) {
            due("plays the " + n + "th", x.plays(60 - n), n);
        }
        due("plays the 17th", x.plays(0), FULL);
        due("plays the 17th", x.plays(60), FULL);
        due("plays the 17th, bad", x.plays(61), BAD);
        due("plays the 17th, bad", x.plays(-1), BAD);
        due("still 16", x.count(2), 16);
        due("the last stays", x.note(15), 44);
        due("cuts", x.cuts(), 44);
        due("plays again the 16th", x.plays(0), 16);
        due("full again", x.plays(0), FULL);
    }

    /** "STATE: there is none." */
    private static void noneToCut() {
        ModeCells x = new ModeCells();
        due("cuts none", x.cuts(), STATE);
        due("nothing to undo", x.count(5), 0);
        x.plays(4);
        x.undo();
        due("cuts none behind undo", x.cuts(), STATE);
        due("nothing to undo", x.count(5), 0);
    }

    /** "The last NOTE is cut: what it was." */
    private static void cutsToNone() {
        ModeCells x = fullTune();
        for (int n = 15; n >= 0; n--) {
            due("cuts", x.cuts(), n);
            due("are left", x.count(2), n);
            due("it is gone", x.note(n), BAD);
        }
        due("cuts none", x.cuts(), STATE);
        due("plays the first", x.plays(60), 1);
        due("cuts 60", x.cuts(), 60);
    }

    /** "BAD": there is no such NOTE. */
    private static void mendsNoSuchNote() {
        due("mends of none", new ModeCells().mends(0, 0), BAD);
        ModeCells x = played(5, 9);
        for (int k : new int[] {-1, 2, 15, 16, LOW, HIGH}) {
            due("mends " + k, x.mends(k, 9), BAD);
        }
        x.cuts();
        due("mends a note that was cut", x.mends(1, 8), BAD);
        due("mends a note that was cut to the same", x.mends(1, 9), BAD);
        Check.tune("nothing changed", x, 5);
        ModeCells y = fullTune();
        due("mends behind the 16th", y.mends(16, 1), BAD);
        due("mends the 16th", y.mends(15, 1), 15);
    }

    /** "BAD": what it should be is no NOTE. */
    private static void mendsToNoNote() {
        ModeCells x = played(0, 60);
        for (int note : NO_NOTES) {
            due("mends to " + note, x.mends(0, note), BAD);
            due("mends to " + note, x.mends(1, note), BAD);
        }
        Check.tune("nothing changed", x, 0, 60);
        due("nothing more to undo", x.count(5), 2);
        due("mends to 60", x.mends(0, 60), 0);
        due("mends to 0", x.mends(1, 0), 60);
        Check.tune("mended", x, 60, 0);
    }

    /** "STATE: it is that", behind BAD. */
    private static void mendsToTheSame() {
        ModeCells x = played(0, 60, 7);
        due("mends 0 to the same", x.mends(0, 0), STATE);
        due("mends 1 to the same", x.mends(1, 60), STATE);
        due("mends 2 to the same", x.mends(2, 7), STATE);
        due("nothing more to undo", x.count(5), 3);
        due("mends to another's", x.mends(2, 60), 7);
        due("then it is that", x.mends(2, 60), STATE);
        due("no such note", x.mends(3, 60), BAD);
    }

    /** "A NOTE is put right: what it was." */
    private static void mendsEachPlace() {
        for (int k = 0; k < 16; k++) {
            ModeCells x = fullTune();
            due("mends " + k, x.mends(k, 40), k);
            for (int other = 0; other < 16; other++) {
                due("mends " + k + ": note " + other, x.note(other), other == k ? 40 : other);
            }
            due("mends " + k + ": notes", x.count(2), 16);
        }
    }

    /** "all moved (by -20 .. 20)"; "BAD". */
    private static void movesMayBe() {
        for (int by = -20; by <= 20; by++) {
            ModeCells x = played(20, 40);
            due("moves " + by, x.moves(by), by == 0 ? STATE : 2);
            Check.tune("moves " + by, x, 20 + by, 40 + by);
        }
        for (int by : new int[] {-21, 21, -40, 40, LOW, HIGH}) {
            ModeCells x = played(30);
            due("moves " + by, x.moves(by), BAD);
            Check.tune("moves " + by, x, 30);
            due("moves none " + by, new ModeCells().moves(by), BAD);
        }
    }

    /** "BAD (one would be beyond 0 .. 60, too)": the first, one between, or the last. */
    private static void movesBeyond() {
        int[][] tunes = {{0, 30, 40}, {30, 0, 40}, {30, 40, 0}};
        for (int[] tune : tunes) {
            ModeCells x = played(tune);
            due("moves below 0", x.moves(-1), BAD);
            due("moves below 0", x.moves(-20), BAD);
            Check.tune("nothing is moved", x, tune);
            due("moves up", x.moves(20), 3);
            due("moves up to beyond", x.moves(1), BAD);
            due("moves down to 0", x.moves(-20), 3);
            Check.tune("as it was", x, tune);
        }
        ModeCells y = played(60, 0);
        for (int by = -20; by <= 20; by++) {
            due("both ends: moves " + by, y.moves(by), by == 0 ? STATE : BAD);
        }
        Check.tune("nothing is moved", y, 60, 0);
        due("nothing more to undo", y.count(5), 2);
    }

    /** "STATE: there are none". */
    private static void movesNone() {
        ModeCells x = new ModeCells();
        for (int by = -20; by <= 20; by++) {
            due("moves none " + by, x.moves(by), STATE);
        }
        due("nothing to undo", x.count(5), 0);
        x.plays(0);
        x.cuts();
        due("none any more", x.moves(-1), STATE);
        due("nothing more to undo", x.count(5), 2);
    }

    /** "by 0": STATE. */
    private static void movesByNothing() {
        ModeCells x = fullTune();
        due("moves by 0", x.moves(0), STATE);
        due("moves by 1", x.moves(1), 16);
        due("moves by 0", x.moves(0), STATE);
        due("undo", x.undo(), 9);
        due("the first", x.note(0), 0);
        due("the last", x.note(15), 15);
    }

    /** "STATE: none." */
    private static void noneToUndo() {
        ModeCells x = new ModeCells();
        due("undo none", x.undo(), STATE);
        x.plays(1);
        due("undo the last", x.undo(), 0);
        due("undo none", x.undo(), STATE);
        Check.tune("undone", x);
    }

    /** "DONE: a NOTE played (the next one), cut (the last one), put right, all moved". */
    private static void eachDeedIsUndone() {
        ModeCells x = played(5, 9, 13);
        x.cuts();
        x.mends(0, 60);
        x.moves(-9);
        Check.tune("done", x, 51, 0);
        due("undo moves", x.undo(), 5);
        Check.tune("moves undone", x, 60, 9);
        due("undo mends", x.undo(), 4);
        Check.tune("mends undone", x, 5, 9);
        due("undo cuts", x.undo(), 3);
        Check.tune("cuts undone", x, 5, 9, 13);
        due("undo plays", x.undo(), 2);
        Check.tune("plays undone", x, 5, 9);
        ModeCells y = fullTune();
        y.moves(45);
        y.moves(20);
        y.cuts();
        due("undo cuts of the 16th", y.undo(), 9);
        due("16 again", y.count(2), 16);
        due("the 16th", y.note(15), 35);
        due("undo moves", y.undo(), 8);
        due("undo plays of the 16th", y.undo(), 7);
        due("15", y.count(2), 15);
    }

    /** "that was not refused": refused ones are no deeds. */
    private static void refusedIsNotUndone() {
        ModeCells x = fullTune();
        x.mends(3, 33);
        x.plays(1);
        x.plays(61);
        x.mends(3, 33);
        x.mends(16, 1);
        x.moves(0);
        x.moves(-1);
        x.moves(21);
        x.keep(0);
        due("undo mends", x.undo(), 9);
        due("mended back", x.note(3), 3);
        due("undo plays", x.undo(), 8);
        due("15 are left", x.count(2), 15);
        ModeCells y = new ModeCells();
        y.cuts();
        y.moves(1);
        due("none of these", y.undo(), STATE);
    }

    /** "10 are known, older ones are lost". */
    private static void tenAreKnown() {
        for (int deeds = 0; deeds <= 16; deeds++) {
            ModeCells x = new ModeCells();
            for (int n = 0; n < deeds; n++) {
                x.plays(n);
                due("known", x.count(5), Math.min(n + 1, 10));
            }
            int known = Math.min(deeds, 10);
            for (int n = 1; n <= known; n++) {
                due(deeds + " deeds: undo", x.undo(), known - n);
                due(deeds + " deeds: notes", x.count(2), deeds - n);
                due(deeds + " deeds: known", x.count(5), known - n);
            }
            due(deeds + " deeds: undo more", x.undo(), STATE);
            due(deeds + " deeds: notes stay", x.count(2), deeds - known);
        }
    }

    /** Many deeds of all kinds, some undone between: each of the ten gives back its own tune. */
    private static void knownGoesRound() {
        ModeCells x = played(30);
        x.keep(0);
        x.back(0);
        List<Integer> past = new ArrayList<>();
        int now = 30;
        for (int i = 0; i < 60; i++) {
            past.add(now);
            if (past.size() > 10) {
                past.remove(0);
            }
            now = (now + 7 + i % 20) % 61;
            due("mends at " + i, x.mends(0, now), past.get(past.size() - 1));
            int undone = i % 25 == 24 ? 10 : i % 9 == 8 ? 6 : 0;
            for (int u = 0; u < undone && !past.isEmpty(); u++) {
                now = past.remove(past.size() - 1);
                due("undo " + u + " at " + i, x.undo(), past.size());
                due("undone " + u + " at " + i, x.note(0), now);
            }
        }
        due("known at the end", x.count(5), past.size());
    }

    /** undo() is no deed: what it undid can't come back. */
    private static void undoIsNotUndone() {
        ModeCells x = played(1, 2, 3);
        due("undo", x.undo(), 2);
        due("undo", x.undo(), 1);
        Check.tune("two undone", x, 1);
        x.plays(9);
        due("undo what is new", x.undo(), 1);
        Check.tune("new one undone", x, 1);
        due("undo the first", x.undo(), 0);
        due("undo none", x.undo(), STATE);
    }

    /** "A NOTE. BAD." */
    private static void noSuchNote() {
        due("note of none", new ModeCells().note(0), BAD);
        ModeCells x = fullTune();
        for (int k = 0; k < 16; k++) {
            due("note " + k, x.note(k), k);
        }
        for (int k : new int[] {-1, 16, 17, LOW, HIGH}) {
            due("note " + k, x.note(k), BAD);
        }
        x.cuts();
        due("note that was cut", x.note(15), BAD);
        x.undo();
        due("note that is back", x.note(15), 15);
    }

    /** "IMAGES 0, 1": BAD. */
    private static void noSuchImage() {
        ModeCells x = played(3);
        x.keep(0);
        x.keep(1);
        for (int image : new int[] {-1, 2, 3, LOW, HIGH}) {
            due("keep " + image, x.keep(image), BAD);
            due("back " + image, x.back(image), BAD);
        }
        due("undo stays", x.count(5), 1);
    }

    /** "STATE: none was kept." */
    private static void noneWasKept() {
        ModeCells x = played(3, 4);
        due("back 0", x.back(0), STATE);
        due("back 1", x.back(1), STATE);
        due("undo stays", x.count(5), 2);
        Check.tune("nothing changed", x, 3, 4);
        due("keep 1", x.keep(1), 2);
        due("still no 0", x.back(0), STATE);
        due("back 1", x.back(1), 2);
        due("still no 0", x.back(0), STATE);
    }

    /** An IMAGE of no NOTES is one. */
    private static void imageOfNone() {
        ModeCells x = new ModeCells();
        due("keep none", x.keep(0), 0);
        due("back to none", x.back(0), 0);
        Check.play(x, 1, 2);
        due("back to none", x.back(0), 0);
        Check.tune("none", x);
        due("cuts none", x.cuts(), STATE);
        due("parse of none", x.parse(0), 0);
    }

    private static void imageOfMost() {
        ModeCells x = fullTune();
        due("keep 16", x.keep(1), 16);
        x.cuts();
        x.moves(20);
        due("back to 16", x.back(1), 16);
        for (int k = 0; k < 16; k++) {
            due("note " + k, x.note(k), k);
        }
        due("still full", x.plays(0), FULL);
    }

    private static void imagesAreTwo() {
        ModeCells x = played(1);
        due("keep 0", x.keep(0), 1);
        x.plays(2);
        due("keep 1", x.keep(1), 2);
        x.plays(3);
        due("back 0", x.back(0), 1);
        Check.tune("image 0", x, 1);
        due("back 1", x.back(1), 2);
        Check.tune("image 1", x, 1, 2);
        x.mends(0, 9);
        due("keep 0 anew", x.keep(0), 2);
        due("back 1", x.back(1), 2);
        Check.tune("image 1 as it was", x, 1, 2);
        due("back 0", x.back(0), 2);
        Check.tune("image 0 as it is now", x, 9, 2);
    }

    /** What is done behind keep() and back() does not reach the IMAGE. */
    private static void imageStays() {
        ModeCells x = played(7, 8);
        x.keep(0);
        x.mends(0, 1);
        x.moves(5);
        due("back", x.back(0), 2);
        Check.tune("back", x, 7, 8);
        x.mends(1, 60);
        x.cuts();
        x.cuts();
        due("back again", x.back(0), 2);
        Check.tune("back again", x, 7, 8);
    }

    /** "nothing can be UNDONE behind back()". */
    private static void nothingUndoneBehindBack() {
        ModeCells x = fullTune();
        x.keep(0);
        due("keep leaves what may be undone", x.count(5), 10);
        due("back to what it is", x.back(0), 16);
        due("nothing to undo", x.count(5), 0);
        due("undo none", x.undo(), STATE);
        due("16 stay", x.count(2), 16);
        x.cuts();
        due("one to undo", x.count(5), 1);
        due("undo it", x.undo(), 0);
        due("undo no more", x.undo(), STATE);
        due("16 again", x.count(2), 16);
        for (int n = 0; n < 12; n++) {
            x.mends(0, 20 + n);
        }
        for (int n = 9; n >= 0; n--) {
            due("undo behind back", x.undo(), n);
        }
        due("as the ten left it", x.note(0), 21);
        due("undo no more", x.undo(), STATE);
    }

    /** "IMAGES 0, 1 keep THE TUNE; nothing else". */
    private static void backLeavesTheRest() {
        ModeCells x = Check.told("c1;c2;m0 1 1;", 3);
        x.plays(4);
        x.sees(1, 1);
        Check.type(x, "c");
        x.keep(0);
        x.sees(2, 1);
        Check.type(x, "3;");
        x.plays(5);
        due("parse of both", x.parsed(0, 0), 4);
        due("back", x.back(0), 1);
        due("seen stays", x.count(3), 2);
        due("text stays", x.count(4), 3);
        due("cells stay", x.count(0), 2);
        due("modes stay", x.count(1), 1);
        due("parse of the image", x.parsed(0, 0), 0);
        due("parse of the image", x.parsed(0, 1), 1);
        due("the text is read", x.modes(), 1);
        due("as it came", x.cell(0, 0), 3);
    }

    /** "at most 512 calls": the last of them is answered as the first ones are. */
    private static void lastCallOfAll() {
        ModeCells x = Check.told("c1;m0 1 0;", 2);
        int calls = "c1;m0 1 0;".length() + 1;
        while (calls + 4 < 512) {
            due("call " + calls + ": plays", x.plays(3), 1);
            due("call " + calls + ": parse", x.parse(0), 0);
            due("call " + calls + ": undo", x.undo(), 0);
            calls += 3;
        }
        for (; calls < 511; calls++) {
            due("call " + calls + ": moves", x.moves(1), STATE);
        }
        due("call 512: plays", x.plays(60), 1);
    }
}
