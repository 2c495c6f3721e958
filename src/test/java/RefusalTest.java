import java.util.ArrayList;
import java.util.List;

/**
 * "Refused, and nothing changes": of two objects that were made alike one is called and refused, then both
 * are asked for all that they know. What only asks must leave all as it is, too.
 */
public final class RefusalTest {
    private static final int BAD = -1, STATE = -2, FULL = -3, NONE = -9;
    private static final int LOW = Integer.MIN_VALUE, HIGH = Integer.MAX_VALUE;
    private static final int CALLS = 512;

    private interface Call {
        int on(ModeCells x);
    }

    private enum Made { NEW, TOLD, BUSY, UNDONE, MOST }

    public static void main(String[] args) {
        badNumbersEverywhere();
        badAskingEverywhere();
        nothingThere();
        fullThere();
        stateOfATune();
        badAheadOfState();
        badAheadOfFull();
        faults();
        noneChangesNothing();
        askingChangesNothing();
        Check.report();
    }

    private static ModeCells make(Made made) {
        ModeCells x = new ModeCells();
        switch (made) {
            case TOLD -> tell(x);
            case BUSY -> makeBusy(x);
            case UNDONE -> makeUndone(x);
            case MOST -> makeMost(x);
            default -> {
            }
        }
        return x;
    }

    private static void tell(ModeCells x) {
        Check.type(x, "c2 2 1;c4;m0 2 0;m1;m1 0 1;");
        x.modes();
    }

    private static void makeBusy(ModeCells x) {
        tell(x);
        Check.play(x, 0, 60, 9);
        x.keep(1);
        x.mends(1, 5);
        x.cuts();
        x.moves(3);
        x.sees(3, 1);
        x.sees(4, 0);
        Check.type(x, "c4 3;m0;");
    }

    /** All that could be UNDONE was, so that the tune is as it began. */
    private static void makeUndone(ModeCells x) {
        tell(x);
        x.plays(1);
        x.keep(0);
        x.back(0);
        Check.play(x, 7, 8);
        x.undo();
        x.undo();
    }

    private static void makeMost(ModeCells x) {
        tell(x);
        Check.play(x, 60, 1, 2);
        x.keep(0);
        for (int n = 3; n < 16; n++) {
            x.plays(n);
        }
        x.keep(1);
        x.mends(15, 0);
        for (int n = 0; n < 8; n++) {
            x.sees(3 * n, n % 2);
        }
        Check.type(x, Check.padded("c1 2 3;m0 1 0;", 130));
    }

    /** All that an object can tell, the last of it by undoing, going back and reading the text. */
    private static List<Integer> allOf(ModeCells x) {
        List<Integer> all = new ArrayList<>();
        askCounts(x, all);
        askTold(x, all);
        askTune(x, all);
        for (int u = 0; u < 11; u++) {
            all.add(x.undo());
            all.add(x.count(2));
            all.add(x.note(0));
            all.add(x.note(x.count(2) - 1));
        }
        for (int image = 0; image < 2; image++) {
            all.add(x.back(image));
            askNotes(x, all);
        }
        all.add(x.forget());
        all.add(x.unseen());
        all.add(x.modes());
        askCounts(x, all);
        for (int k = -1; k < 4; k++) {
            all.add(x.cell(0, k));
            all.add(x.part(0, k, 1));
        }
        return all;
    }

    private static void askCounts(ModeCells x, List<Integer> all) {
        for (int what = 0; what <= 5; what++) {
            all.add(x.count(what));
        }
    }

    private static void askTold(ModeCells x, List<Integer> all) {
        for (int c = 0; c < 2; c++) {
            for (int k = -1; k < 3; k++) {
                all.add(x.cell(c, k));
            }
        }
        for (int m = 0; m < 3; m++) {
            for (int k = -1; k < 2; k++) {
                all.add(x.part(24 * m + 5, k, 0));
                all.add(x.part(24 * m + 5, k, 1));
            }
        }
        all.add(x.way(0, 14, -1));
        all.add(x.way(0, 14, 1));
        all.add(x.farthest(50, 1));
    }

    private static void askNotes(ModeCells x, List<Integer> all) {
        for (int k = 0; k < 16; k++) {
            all.add(x.note(k));
        }
    }

    private static void askTune(ModeCells x, List<Integer> all) {
        askNotes(x, all);
        all.add(x.unseen());
        all.add(x.home());
        all.add(x.fit(0));
        all.add(x.reach());
        for (int what = 0; what <= 2; what++) {
            all.add(x.parse(what));
        }
        for (int k = 0; k < 3; k++) {
            all.add(x.parsed(k, 0));
            all.add(x.parsed(k, 1));
        }
    }

    private static void changesNothing(String name, Made made, int times, Call call) {
        ModeCells called = make(made);
        for (int i = 0; i < times; i++) {
            call.on(called);
        }
        List<Integer> want = allOf(make(made));
        List<Integer> got = allOf(called);
        for (int i = 0; i < want.size(); i++) {
            Check.due(made + ": behind " + name + ", asked " + i, got.get(i), want.get(i));
        }
        // The most is made by some 200 calls, and asking counts some of them twice.
        Check.due("calls on one object", 200 + times + want.size() + 11 <= CALLS ? 1 : 0, 1);
    }

    private static void refused(String name, Made made, int want, Call call) {
        Check.due(made + ": " + name, call.on(make(made)), want);
        changesNothing(name, made, 1, call);
        changesNothing(name + ", 12 times", made, 12, call);
    }

    private static void badEverywhere(String name, Call call) {
        for (Made made : Made.values()) {
            refused(name, made, BAD, call);
        }
    }

    /** Numbers that are not as told, whatever the state is. */
    private static void badNumbersEverywhere() {
        for (int wild : new int[] {LOW, -1, 256, HIGH}) {
            badEverywhere("type " + wild, x -> x.type(wild));
        }
        for (int wild : new int[] {LOW, -1, 61, HIGH}) {
            badEverywhere("plays " + wild, x -> x.plays(wild));
            badEverywhere("mends 0 " + wild, x -> x.mends(0, wild));
        }
        for (int wild : new int[] {LOW, -1, 16, HIGH}) {
            badEverywhere("mends " + wild, x -> x.mends(wild, 7));
        }
        for (int wild : new int[] {LOW, -21, 21, HIGH}) {
            badEverywhere("moves " + wild, x -> x.moves(wild));
        }
        for (int wild : new int[] {LOW, -1, 121, HIGH}) {
            badEverywhere("sees " + wild, x -> x.sees(wild, 1));
        }
        for (int wild : new int[] {LOW, -1, 2, HIGH}) {
            badEverywhere("sees 1 " + wild, x -> x.sees(1, wild));
            badEverywhere("keep " + wild, x -> x.keep(wild));
            badEverywhere("back " + wild, x -> x.back(wild));
        }
    }

    private static void badAskingEverywhere() {
        for (int wild : new int[] {LOW, -2, HIGH}) {
            badEverywhere("cell " + wild, x -> x.cell(wild, 0));
            badEverywhere("part " + wild, x -> x.part(wild, 0, 0));
            badEverywhere("part 0 0 " + wild, x -> x.part(0, 0, wild));
            badEverywhere("note " + wild, x -> x.note(wild));
            badEverywhere("has " + wild, x -> x.has(wild, 0));
            badEverywhere("has 0 " + wild, x -> x.has(0, wild));
            badEverywhere("shares " + wild, x -> x.shares(wild, 0, -1));
            badEverywhere("shares 0 " + wild, x -> x.shares(0, wild, -1));
            badEverywhere("way " + wild, x -> x.way(wild, 0, -1));
            badEverywhere("way 0 " + wild, x -> x.way(0, wild, -1));
            badEverywhere("farthest " + wild, x -> x.farthest(wild, 0));
            badEverywhere("farthest 0 " + wild, x -> x.farthest(0, wild));
            badEverywhere("parse " + wild, x -> x.parse(wild));
            badEverywhere("parsed " + wild, x -> x.parsed(wild, 0));
            badEverywhere("parsed 0 " + wild, x -> x.parsed(0, wild));
            badEverywhere("fit " + wild, x -> x.fit(wild));
            badEverywhere("count " + wild, x -> x.count(wild));
        }
        for (int k : new int[] {LOW, -2}) {
            badEverywhere("cell 0 " + k, x -> x.cell(0, k));
            badEverywhere("part 0 " + k, x -> x.part(0, k, 0));
            badEverywhere("shares 0 0 " + k, x -> x.shares(0, 0, k));
            badEverywhere("way 0 0 " + k, x -> x.way(0, 0, k));
        }
    }

    /** STATE where there is nothing, and BAD where there is no such thing. */
    private static void nothingThere() {
        for (Made made : new Made[] {Made.NEW, Made.TOLD}) {
            refused("cuts", made, STATE, x -> x.cuts());
            refused("moves 1", made, STATE, x -> x.moves(1));
            refused("moves 0", made, STATE, x -> x.moves(0));
            refused("undo", made, STATE, x -> x.undo());
            refused("back 0", made, STATE, x -> x.back(0));
            refused("back 1", made, STATE, x -> x.back(1));
            refused("mends 0 0", made, BAD, x -> x.mends(0, 0));
            refused("parsed 0 0", made, BAD, x -> x.parsed(0, 0));
        }
        refused("cell 0", Made.NEW, BAD, x -> x.cell(0, -1));
        refused("part 0", Made.NEW, BAD, x -> x.part(0, -1, 0));
        refused("fit 0", Made.NEW, BAD, x -> x.fit(0));
        refused("way 0 0", Made.NEW, BAD, x -> x.way(0, 0, -1));
        refused("undo", Made.UNDONE, STATE, x -> x.undo());
        refused("back 0", Made.BUSY, STATE, x -> x.back(0));
        refused("back 1", Made.UNDONE, STATE, x -> x.back(1));
    }

    private static void fullThere() {
        refused("type", Made.MOST, FULL, x -> x.type('x'));
        refused("type a blank", Made.MOST, FULL, x -> x.type(' '));
        refused("plays", Made.MOST, FULL, x -> x.plays(17));
        refused("sees", Made.MOST, FULL, x -> x.sees(0, 1));
    }

    private static void stateOfATune() {
        refused("mends to the same", Made.MOST, STATE, x -> x.mends(0, 60));
        refused("mends to the same", Made.MOST, STATE, x -> x.mends(15, 0));
        refused("mends to the same", Made.BUSY, STATE, x -> x.mends(1, 8));
        refused("moves by 0", Made.MOST, STATE, x -> x.moves(0));
        refused("moves by 0", Made.BUSY, STATE, x -> x.moves(0));
        // The first note is 60, the last one 0: some would be moved before one is beyond.
        refused("moves up", Made.MOST, BAD, x -> x.moves(1));
        refused("moves down", Made.MOST, BAD, x -> x.moves(-1));
        refused("moves down", Made.BUSY, BAD, x -> x.moves(-4));
        refused("moves down", Made.UNDONE, BAD, x -> x.moves(-2));
    }

    private static void badAheadOfState() {
        refused("mends none to what it was", Made.UNDONE, BAD, x -> x.mends(1, 7));
        refused("mends to no note", Made.NEW, BAD, x -> x.mends(0, 61));
        refused("moves none too far", Made.NEW, BAD, x -> x.moves(21));
        refused("moves none too far", Made.TOLD, BAD, x -> x.moves(-21));
        refused("back to no image", Made.NEW, BAD, x -> x.back(2));
    }

    private static void badAheadOfFull() {
        refused("type", Made.MOST, BAD, x -> x.type(256));
        refused("plays", Made.MOST, BAD, x -> x.plays(61));
        refused("sees", Made.MOST, BAD, x -> x.sees(121, 1));
        refused("sees", Made.MOST, BAD, x -> x.sees(1, 2));
    }

    /** "nothing changes (THE TEXT, too, stays)". */
    private static void faults() {
        String[] texts = {"x", "c1;m0;c1;m1;c", "c1;;", "m", "c4;c4;c4;c4;c4;c4;c4;"};
        int[] places = {0, 13, 3, 1, 18};
        for (int i = 0; i < texts.length; i++) {
            for (Made made : new Made[] {Made.NEW, Made.TOLD, Made.UNDONE}) {
                faulty(texts[i], places[i], made);
            }
        }
    }

    /** The text is cleared behind it, as the other object has none. */
    private static void faulty(String text, int place, Made made) {
        ModeCells x = make(made);
        Check.type(x, text);
        Check.due(made + ": fault of " + text, x.modes(), -10 - place);
        Check.due(made + ": text of " + text, x.clear(), text.length());
        changesNothing("fault of " + text, made, 1, y -> {
            Check.type(y, text);
            y.modes();
            return y.clear();
        });
    }

    private static void noneChangesNothing() {
        for (Made made : new Made[] {Made.TOLD, Made.BUSY, Made.UNDONE, Made.MOST}) {
            refused("cell 0 3", made, NONE, x -> x.cell(0, 3));
            refused("part 24 1 0", made, NONE, x -> x.part(24, 1, 0));
            refused("shares 0 24 0", made, NONE, x -> x.shares(0, 24, 0));
            refused("way 0 24 -1", made, NONE, x -> x.way(0, 24, -1));
            refused("way 0 7 2", made, NONE, x -> x.way(0, 7, 2));
        }
        refused("parse 0", Made.MOST, NONE, x -> x.parse(0));
        refused("parsed 0 0", Made.MOST, NONE, x -> x.parsed(0, 0));
        refused("home", Made.NEW, NONE, x -> x.home());
    }

    private static void askingChangesNothing() {
        for (Made made : Made.values()) {
            changesNothing("has", made, 3, x -> x.has(0, 5));
            changesNothing("shares", made, 3, x -> x.shares(0, 7, -1));
            changesNothing("way", made, 3, x -> x.way(7, 0, 1));
            changesNothing("farthest", made, 3, x -> x.farthest(3, 0));
            changesNothing("parse", made, 3, x -> x.parse(0));
            changesNothing("parsed", made, 3, x -> x.parsed(0, 1));
            changesNothing("reach", made, 3, x -> x.reach());
            changesNothing("fit", made, 3, x -> x.fit(2));
            changesNothing("home", made, 3, x -> x.home());
            changesNothing("unseen", made, 3, x -> x.unseen());
            changesNothing("note", made, 3, x -> x.note(0));
            changesNothing("cell", made, 3, x -> x.cell(1, 0));
            changesNothing("part", made, 3, x -> x.part(0, 1, 1));
            changesNothing("count", made, 3, x -> x.count(5));
        }
    }
}
