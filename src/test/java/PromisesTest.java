import java.util.List;

/** Each promise by hand: ordinary calls, the edges that the document names, and wrong numbers. */
public final class PromisesTest {
    private static final int BAD = -1, STATE = -2, FULL = -3, NONE = -9;
    private static final int LOW = Integer.MIN_VALUE, HIGH = Integer.MAX_VALUE;
    /** Two tetrachords a whole step apart, and the two joined without a gap. */
    private static final String TWO = "c2 2 1;c1 2 2;m0 2 0;m0 0 1;";

    public static void main(String[] args) {
        newObject();
        type();
        clear();
        modesGood();
        modesFaults();
        modesTellAnew();
        cell();
        part();
        plays();
        cuts();
        mends();
        moves();
        undo();
        note();
        has();
        shares();
        way();
        farthest();
        parse();
        parseChangesScale();
        parseTies();
        parseWidest();
        parsed();
        reach();
        fit();
        home();
        sees();
        unseen();
        images();
        count();
        Check.report();
    }

    private static void due(String call, int got, int want) {
        Check.due(call, got, want);
    }

    private static void newObject() {
        ModeCells x = new ModeCells();
        for (int what = 0; what <= 5; what++) {
            due("new: count " + what, x.count(what), 0);
        }
        due("new: cell", x.cell(0, -1), BAD);
        due("new: part", x.part(0, -1, 0), BAD);
        due("new: home", x.home(), NONE);
        due("new: unseen", x.unseen(), 0);
        due("new: parse", x.parse(0), 0);
        due("new: reach", x.reach(), 0);
        due("new: way", x.way(0, 0, -1), BAD);
        due("new: farthest", x.farthest(0, 0), BAD);
        due("new: shares", x.shares(0, 0, -1), BAD);
        due("new: has", x.has(0, 0), BAD);
        due("new: fit", x.fit(0), BAD);
        due("new: undo", x.undo(), STATE);
        due("new: back", x.back(0), STATE);
        due("new: modes", x.modes(), 0);
        x.plays(3);
        due("no modes: parse", x.parse(0), NONE);
        due("no modes: parsed", x.parsed(0, 0), NONE);
        due("no modes: reach", x.reach(), 0);
    }

    private static void type() {
        ModeCells x = new ModeCells();
        due("type -1", x.type(-1), BAD);
        due("type 256", x.type(256), BAD);
        due("type low", x.type(LOW), BAD);
        due("type high", x.type(HIGH), BAD);
        due("type 0", x.type(0), 1);
        due("type 255", x.type(255), 2);
        for (int i = 3; i <= 130; i++) {
            due("type blank", x.type(32), i);
        }
        due("type full", x.type(32), FULL);
        due("type full and bad", x.type(256), BAD);
        due("text stays", x.count(4), 130);
        due("fault 0", x.modes(), -10);
    }

    private static void clear() {
        ModeCells x = new ModeCells();
        due("clear nothing", x.clear(), 0);
        Check.type(x, "c1;");
        due("clear", x.clear(), 3);
        due("clear again", x.clear(), 0);
        due("modes of nothing", x.modes(), 0);
        for (int i = 0; i < 130; i++) {
            x.type('c');
        }
        due("clear full", x.clear(), 130);
        due("type behind", x.type('c'), 1);
    }

    private static void modesGood() {
        Check.told("", 0);
        Check.told("   ", 0);
        Check.told("c1;", 1);
        Check.told(" c 1 2 3 4 ; m 0 3 0 0 0 1 0 ; ", 2);
        Check.told("c4;m0;c1;m1 3 0;", 4);
        Check.told("c1;c1;c1;c1;c1;c1;m5;m4;m3;m2;m1;m0;", 12);
        ModeCells x = Check.told("c1 2;c3;m1 2 0;", 3);
        due("text is empty", x.count(4), 0);
        due("cells", x.count(0), 2);
        due("modes", x.count(1), 1);
        StringBuilder text = new StringBuilder("c1;");
        while (text.length() < 130) {
            text.append(' ');
        }
        Check.told(text.toString(), 1);
    }

    private static void fault(String text, int place) {
        ModeCells x = new ModeCells();
        Check.type(x, text);
        due("modes of \"" + text + "\"", x.modes(), -10 - place);
        due("text stays", x.count(4), text.length());
        due("no cells", x.count(0), 0);
        due("no modes", x.count(1), 0);
    }

    private static void modesFaults() {
        fault("x", 0);
        fault(" ;", 1);
        fault("1", 0);
        fault("c", 1);
        fault("c  ", 3);
        fault("c;", 1);
        fault("cc", 1);
        fault("c1", 2);
        fault("c1 ", 3);
        fault("c1 2 3 4", 8);
        fault("c1 2 3 4 5", 9);
        fault("c1 2 3 4 1;", 9);
        fault("c0;", 1);
        fault("c5;", 1);
        fault("c 12;", 2);
        fault("c01;", 1);
        fault("c1 00;", 3);
        fault("c99999999999999999999", 1);
        fault("c1m", 2);
        fault("c1,", 2);
        fault("c1;;", 3);
        fault("C1;", 0);
        fault("m", 1);
        fault("m;", 1);
        fault("m0;", 1);
        fault("c1;m1;c1;", 4);
        fault("c1;m0 0;", 7);
        fault("c1;m0 4 0;", 6);
        fault("c1;m0 3 1;", 8);
        fault("c1;m0 10 0;", 6);
        fault("c1;m0 00 0;", 6);
        fault("c1;m00;", 4);
        fault("c1;m0 0", 7);
        fault("c1;m0 0 0", 9);
        fault("c1;m0 0 0 0 0 0 0", 17);
        fault("c1;m0 0 0 0 0 0 0 0;", 18);
        fault("c1;m0c", 5);
        fault("c1;m0\t;", 5);
        fault("c1;c1;c1;c1;c1;c1;c1;", 18);
        fault("c1;m0;m0;m0;m0;m0;m0;m0;", 21);
        fault("c1;m0;m0;m0;m0;m0;m0;x", 21);
        fault("c1" + (char) 0 + ";", 2);
        fault("c1;" + (char) 255, 3);
        StringBuilder text = new StringBuilder("c1");
        while (text.length() < 130) {
            text.append(' ');
        }
        fault(text.toString(), 130);
    }

    private static void modesTellAnew() {
        ModeCells x = Check.told(TWO, 4);
        Check.play(x, 1, 2);
        x.keep(0);
        x.keep(1);
        x.sees(1, 1);
        Check.type(x, "c1;m");
        due("fault", x.modes(), -14);
        due("faulty: cells stay", x.count(0), 2);
        due("faulty: modes stay", x.count(1), 2);
        due("faulty: tune stays", x.count(2), 2);
        due("faulty: seen stays", x.count(3), 1);
        due("faulty: undo stays", x.count(5), 2);
        due("faulty: image stays", x.back(0), 2);
        due("faulty: first cell stays", x.cell(0, -1), 3);
        x.plays(4);
        Check.type(x, "0;");
        due("told", x.modes(), 2);
        due("anew: cells", x.count(0), 1);
        due("anew: first cell", x.cell(0, -1), 1);
        due("anew: modes", x.count(1), 1);
        due("anew: tune", x.count(2), 0);
        due("anew: seen", x.count(3), 0);
        due("anew: text", x.count(4), 0);
        due("anew: undo", x.count(5), 0);
        due("anew: undo", x.undo(), STATE);
        due("anew: image 0", x.back(0), STATE);
        due("anew: image 1", x.back(1), STATE);
        due("anew: parse", x.parse(0), 0);
        due("nothing told", x.modes(), 0);
        due("nothing: cells", x.count(0), 0);
        due("nothing: modes", x.count(1), 0);
    }

    private static void cell() {
        ModeCells x = Check.told("c4;c1 2 3 4;", 2);
        due("cell 0 -1", x.cell(0, -1), 1);
        due("cell 0 0", x.cell(0, 0), 4);
        due("cell 0 1", x.cell(0, 1), NONE);
        due("cell 1 -1", x.cell(1, -1), 4);
        for (int k = 0; k < 4; k++) {
            due("cell 1 " + k, x.cell(1, k), k + 1);
        }
        due("cell 1 4", x.cell(1, 4), NONE);
        due("cell 1 high", x.cell(1, HIGH), NONE);
        due("cell 1 -2", x.cell(1, -2), BAD);
        due("cell 1 low", x.cell(1, LOW), BAD);
        due("cell 2 0", x.cell(2, 0), BAD);
        due("cell -1 0", x.cell(-1, 0), BAD);
        due("cell 2 9", x.cell(2, 9), BAD);
        due("cell low", x.cell(LOW, 0), BAD);
        due("cell high", x.cell(HIGH, 0), BAD);
    }

    private static void part() {
        ModeCells x = Check.told("c4 4 4 4;c1;m0 3 0 3 0 3 0;m1 0 0;", 4);
        due("parts", x.part(23, -1, 0), 4);
        due("parts", x.part(23, -1, 1), 4);
        due("parts, what 2", x.part(23, -1, 2), BAD);
        due("parts, what -1", x.part(23, -1, -1), BAD);
        for (int k = 0; k < 4; k++) {
            due("pitch", x.part(23, k, 1), 23 + 19 * k);
            due("cell", x.part(23, k, 0), 0);
        }
        due("part 4", x.part(23, 4, 0), NONE);
        due("part high", x.part(0, HIGH, 0), NONE);
        due("part -2", x.part(0, -2, 0), BAD);
        due("part low", x.part(0, LOW, 0), BAD);
        due("what 2", x.part(0, 0, 2), BAD);
        due("what 2, none", x.part(0, 9, 2), BAD);
        due("second mode", x.part(24, -1, 0), 2);
        due("second mode, cell", x.part(24, 0, 0), 1);
        due("second mode, cell", x.part(24, 1, 0), 0);
        due("second mode, pitch", x.part(29, 1, 1), 6);
        due("second mode, none", x.part(47, 2, 1), NONE);
        due("no scale", x.part(48, -1, 0), BAD);
        due("no scale", x.part(-1, -1, 0), BAD);
        due("no scale", x.part(LOW, -1, 0), BAD);
        due("no scale", x.part(HIGH, 9, 0), BAD);
    }

    private static void plays() {
        ModeCells x = new ModeCells();
        due("plays -1", x.plays(-1), BAD);
        due("plays 61", x.plays(61), BAD);
        due("plays low", x.plays(LOW), BAD);
        due("plays high", x.plays(HIGH), BAD);
        due("plays 0", x.plays(0), 1);
        due("plays 60", x.plays(60), 2);
        Check.tune("played", x, 0, 60);
        for (int n = 3; n <= 16; n++) {
            due("plays", x.plays(n), n);
        }
        due("plays 17th", x.plays(1), FULL);
        due("plays 17th, bad", x.plays(61), BAD);
        due("nothing changed", x.count(2), 16);
        due("nothing to undo of it", x.count(5), 10);
    }

    private static void cuts() {
        ModeCells x = new ModeCells();
        due("cuts nothing", x.cuts(), STATE);
        due("nothing to undo of it", x.count(5), 0);
        Check.play(x, 5, 9);
        due("cuts", x.cuts(), 9);
        Check.tune("cut", x, 5);
        due("cuts", x.cuts(), 5);
        due("cuts none", x.cuts(), STATE);
        due("to undo", x.count(5), 4);
    }

    private static void mends() {
        ModeCells x = new ModeCells();
        due("mends nothing", x.mends(0, 1), BAD);
        Check.play(x, 5, 9);
        due("mends", x.mends(0, 60), 5);
        due("mends", x.mends(1, 0), 9);
        Check.tune("mended", x, 60, 0);
        due("mends to the same", x.mends(1, 0), STATE);
        due("mends none", x.mends(2, 0), BAD);
        due("mends none", x.mends(-1, 0), BAD);
        due("mends none", x.mends(LOW, 0), BAD);
        due("mends none", x.mends(HIGH, 0), BAD);
        due("mends to 61", x.mends(0, 61), BAD);
        due("mends to -1", x.mends(0, -1), BAD);
        due("to undo", x.count(5), 4);
    }

    private static void moves() {
        ModeCells x = new ModeCells();
        due("moves nothing", x.moves(1), STATE);
        due("moves nothing by 0", x.moves(0), STATE);
        due("moves nothing by 20", x.moves(20), STATE);
        due("moves nothing by 21", x.moves(21), BAD);
        due("moves nothing by -21", x.moves(-21), BAD);
        Check.play(x, 20, 40);
        due("moves by -21", x.moves(-21), BAD);
        due("moves by 21", x.moves(21), BAD);
        due("moves by low", x.moves(LOW), BAD);
        due("moves by high", x.moves(HIGH), BAD);
        due("moves by 0", x.moves(0), STATE);
        due("moves by 20", x.moves(20), 2);
        Check.tune("moved up", x, 40, 60);
        due("moves beyond 60", x.moves(1), BAD);
        due("moves by -20", x.moves(-20), 2);
        due("moves by -20", x.moves(-20), 2);
        Check.tune("moved down", x, 0, 20);
        due("moves below 0", x.moves(-1), BAD);
        due("to undo", x.count(5), 5);
    }

    private static void undo() {
        ModeCells x = new ModeCells();
        due("undo nothing", x.undo(), STATE);
        Check.play(x, 5, 9);
        x.moves(3);
        x.mends(0, 30);
        x.cuts();
        Check.tune("done", x, 30);
        due("undo cuts", x.undo(), 4);
        Check.tune("cut undone", x, 30, 12);
        due("undo mends", x.undo(), 3);
        Check.tune("mend undone", x, 8, 12);
        due("undo moves", x.undo(), 2);
        Check.tune("move undone", x, 5, 9);
        x.plays(99);
        x.mends(0, 5);
        x.moves(0);
        due("undo plays", x.undo(), 1);
        Check.tune("play undone", x, 5);
        x.plays(7);
        due("undo the new one", x.undo(), 1);
        due("undo plays", x.undo(), 0);
        due("undo none", x.undo(), STATE);
        Check.tune("all undone", x);
        for (int n = 0; n < 13; n++) {
            x.plays(n);
        }
        due("ten are known", x.count(5), 10);
        for (int n = 9; n >= 0; n--) {
            due("undo", x.undo(), n);
        }
        due("older ones are lost", x.undo(), STATE);
        Check.tune("ten undone", x, 0, 1, 2);
    }

    private static void note() {
        ModeCells x = new ModeCells();
        due("note of nothing", x.note(0), BAD);
        Check.play(x, 7, 8);
        due("note 0", x.note(0), 7);
        due("note 1", x.note(1), 8);
        due("note 2", x.note(2), BAD);
        due("note -1", x.note(-1), BAD);
        due("note low", x.note(LOW), BAD);
        due("note high", x.note(HIGH), BAD);
    }

    private static void has() {
        ModeCells x = Check.told(TWO, 4);
        int[] first = {1, 0, 1, 0, 1, 1, 0, 1, 0, 1, 0, 1, 1, 0};
        for (int n = 0; n < first.length; n++) {
            due("has 0 " + n, x.has(0, n), first[n]);
        }
        due("joined twice", x.has(24, 5), 2);
        due("has on a root", x.has(24 + 3, 8), 2);
        due("has 60", x.has(0, 60), 0);
        due("has 61", x.has(0, 61), BAD);
        due("has -1", x.has(0, -1), BAD);
        due("no scale", x.has(48, 0), BAD);
        due("no scale", x.has(-1, 0), BAD);
    }

    private static void shares() {
        // The second cell has the first one's steps, but is another cell.
        ModeCells x = Check.told("c2 2;c2 2;m0 1 0 2 1;m1 1 0 0 1;m0;", 5);
        due("with itself", x.shares(0, 0, -1), 3);
        due("with itself, the third", x.shares(0, 0, 2), 2);
        due("with itself, none", x.shares(0, 0, 3), NONE);
        due("one in the midst", x.shares(0, 24, -1), 1);
        due("one in the midst", x.shares(0, 24, 0), 1);
        due("one in the midst", x.shares(24, 0, 0), 1);
        due("not so many", x.shares(0, 24, 1), NONE);
        due("other cell at the pitch", x.shares(24, 48, -1), 0);
        due("other cell at the pitch", x.shares(24, 48, 0), NONE);
        due("k -2", x.shares(0, 24, -2), BAD);
        due("k low", x.shares(0, 24, LOW), BAD);
        due("k high", x.shares(0, 24, HIGH), NONE);
        due("no scale", x.shares(72, 0, -1), BAD);
        due("no scale", x.shares(0, 72, -1), BAD);
        due("no scale", x.shares(-1, 0, -1), BAD);
        due("no scale", x.shares(0, -1, 9), BAD);
        ModeCells y = Check.told("c1;m0 1 0 1 0;m0;", 3);
        due("shifted", y.shares(0, 2, -1), 2);
        due("shifted, first", y.shares(0, 2, 0), 1);
        due("shifted, second", y.shares(0, 2, 1), 2);
        due("shifted back, first", y.shares(2, 0, 0), 0);
    }

    private static void way() {
        // Scales 0 .. 23 are single cells; 24 .. 47 join a cell with the one 2 above it.
        ModeCells x = Check.told("c1;c4;m0;m0 1 0;m1;", 5);
        due("to itself", x.way(5, 5, -1), 1);
        due("to itself, 0", x.way(5, 5, 0), 5);
        due("to itself, 1", x.way(5, 5, 1), NONE);
        due("next", x.way(0, 24, -1), 2);
        due("over one", x.way(0, 2, -1), 3);
        due("over one, 0", x.way(0, 2, 0), 0);
        due("over one, 1", x.way(0, 2, 1), 24);
        due("over one, 2", x.way(0, 2, 2), 2);
        due("over one, 3", x.way(0, 2, 3), NONE);
        due("over one, high", x.way(0, 2, HIGH), NONE);
        due("none: another parity", x.way(0, 1, -1), NONE);
        due("none: another parity", x.way(0, 1, 0), NONE);
        due("none: another cell", x.way(0, 48, 0), NONE);
        due("k -2", x.way(0, 1, -2), BAD);
        due("k low", x.way(0, 0, LOW), BAD);
        due("no scale", x.way(72, 0, -1), BAD);
        due("no scale", x.way(0, 72, -1), BAD);
        due("no scale", x.way(-1, 0, -1), BAD);
        due("no scale", x.way(0, -1, -1), BAD);
        // Modes 1 and 2 are the same: the way takes the lower one, both there and back.
        ModeCells y = Check.told("c1;m0;m0 1 0;m0 1 0;", 4);
        due("lowest second", y.way(0, 2, 1), 24);
        due("lowest second", y.way(2, 0, 1), 24);
        due("lowest second, then third", y.way(72 - 1, 71 - 4, 1), 71 - 24 - 2);
        Check.type(y, "c1;m0 1 0;");
        y.modes();
        due("measured anew", y.way(0, 2, -1), 2);
        Check.type(y, "c1;m0;");
        y.modes();
        due("measured anew", y.way(0, 2, -1), NONE);
    }

    private static void farthest() {
        ModeCells x = Check.told("c1;c4;m0 1 0;m1;", 4);
        due("farthest of 0", x.farthest(0, 0), 12);
        due("farthest of 0", x.farthest(0, 1), 22);
        due("farthest of 23", x.farthest(23, 1), 1);
        due("farthest of 10", x.farthest(10, 0), 7);
        due("farthest of 10", x.farthest(10, 1), 22);
        due("farthest of 11, lowest", x.farthest(11, 0), 7);
        due("farthest of 11", x.farthest(11, 1), 23);
        due("alone", x.farthest(30, 0), 1);
        due("alone", x.farthest(30, 1), 30);
        due("what 2", x.farthest(0, 2), BAD);
        due("what -1", x.farthest(0, -1), BAD);
        due("no scale", x.farthest(48, 0), BAD);
        due("no scale", x.farthest(-1, 0), BAD);
        // Both neighbours are equally far: the lower one is told.
        ModeCells y = Check.told("c4 4 4;m0 0 0;", 2);
        due("two so far", y.farthest(12, 0), 2);
        due("two so far", y.farthest(12, 1), 0);
        due("way after farthest", y.way(0, 12, -1), 2);
    }

    private static void parse() {
        ModeCells x = Check.told(TWO, 4);
        for (int what = 0; what < 3; what++) {
            due("of no notes", x.parse(what), 0);
        }
        due("what 3", x.parse(3), BAD);
        due("what -1", x.parse(-1), BAD);
        Check.play(x, 0, 4, 5, 7, 9);
        due("cost", x.parse(0), 1);
        due("scales", x.parse(1), 0);
        due("parts", x.parse(2), 1);
        x.plays(60);
        due("none", x.parse(0), NONE);
        due("none", x.parse(1), NONE);
        due("none", x.parse(2), NONE);
        due("none, but bad", x.parse(3), BAD);
        x.undo();
        due("undone", x.parse(0), 1);
    }

    private static void sameRow(String where, List<Integer> got, List<Integer> want) {
        due(where + ": size", got.size(), want.size());
        for (int i = 0; i < want.size() && i < got.size(); i++) {
            due(where + ": " + i + " of " + got, got.get(i), want.get(i));
        }
    }

    private static void parseChangesScale() {
        // Cell 0: 0 1; cell 1: 0 4; cell 2: 0 3. Mode 0 has 0 then 1, mode 1 has 1 then 2.
        ModeCells x = Check.told("c1;c4;c3;m0 1 1;m1 2 2;", 5);
        // 0 is in cell 0 at 0 (0 1), 2 6 is the shared cell 1 at 2, 11 is in cell 2 at 8 (8 11).
        Check.play(x, 0, 1, 6, 11);
        due("turned and changed at once: cost", x.parse(0), 12);
        due("turned and changed at once: scales", x.parse(1), 1);
        due("turned and changed at once: parts", x.parse(2), 2);
        sameRow("turned and changed at once", Check.parse(x), List.of(0, 0, 0, 0, 24 + 2, 0, 24 + 2, 1));
        // Without a note in the shared cell there is no place to change at.
        x.cuts();
        x.cuts();
        x.plays(11);
        due("no note to change at", x.parse(0), NONE);
        due("no note to change at", x.reach(), 2);
        // Two notes in the shared cell: the change comes as late as may be, for the lower scale.
        x.cuts();
        Check.play(x, 2, 6, 11);
        due("late change", x.parse(0), 12);
        sameRow("late change", Check.parse(x), List.of(0, 0, 0, 0, 0, 1, 26, 0, 26, 1));
    }

    private static void parseTies() {
        ModeCells x = Check.told("c1;m0 0 0;", 2);
        Check.play(x, 1);
        sameRow("lowest scale, then part", Check.parse(x), List.of(0, 0));
        x.plays(2);
        sameRow("the second note tells the part", Check.parse(x), List.of(0, 1, 0, 1));
        due("no cost", x.parse(0), 0);
        // One mode has 10 11 and 13 17 in two parts, the other one 10 13 in one, and 13 17, too.
        // The first note, 11, is in the one alone: twelve turns in it cost as much as to leave it.
        turnsOrLeaves("c1;c4;c3;m0 2 1;m2 0 1;", 12, 0, 12);
        turnsOrLeaves("c1;c4;c3;m2 0 1;m0 2 1;", 12, 1, 2);
        turnsOrLeaves("c1;c4;c3;m2 0 1;m0 2 1;", 11, 0, 11);
        turnsOrLeaves("c1;c4;c3;m0 2 1;m2 0 1;", 13, 1, 2);
    }

    private static void turnsOrLeaves(String text, int turns, int scales, int parts) {
        ModeCells x = Check.told(text, 5);
        x.plays(11);
        for (int k = 0; k < turns; k++) {
            x.plays(k % 2 == 0 ? 13 : 10);
        }
        due(text + turns + ": cost", x.parse(0), 10 * scales + parts);
        due(text + turns + ": scales", x.parse(1), scales);
        due(text + turns + ": parts", x.parse(2), parts);
        int first = x.parsed(0, 0);
        for (int k = 1; k <= turns; k++) {
            due(text + turns + ": scale of " + k, x.parsed(k, 0), scales == 0 ? first : 44 - first);
        }
        x.moves(-10);
        due(text + turns + " moved: cost", x.parse(0), 10 * scales + parts);
        for (int k = 1; k <= turns; k++) {
            due(text + turns + " moved: scale of " + k, x.parsed(k, 0), (scales == 0 ? first : 44 - first) - 10);
        }
    }

    /** As many and as high as can be told; the last cell at the highest pitch. */
    private static void parseWidest() {
        String high = "m0 3 0 3 0 3 5;";
        ModeCells x = Check.told("c4 4 4 4;c1;c1;c1;c1;c1;" + high + high + high + high + high + high, 12);
        due("highest pitch", x.part(143, 3, 1), 80);
        due("shares the highest", x.shares(143, 23, -1), 4);
        due("way of the highest", x.way(143, 23, -1), 2);
        due("farthest of the highest", x.farthest(143, 0), 2);
        for (int k = 0; k < 16; k++) {
            x.plays(57);
        }
        sameRow("lowest with 57", Check.parse(x).subList(30, 32), List.of(0, 3));
        x.mends(15, 1);
        due("none", x.parse(0), NONE);
        due("as far as the last", x.reach(), 15);
        ModeCells y = Check.told("c4 4 4 4;c1;m1 0 0 0 0 0 0;m0 3 0 3 0 3 0;m0 0 0 0 0 0 1;", 5);
        for (int s = 0; s < 72; s++) {
            due("cell 1 is in mode 0 below " + s, y.shares(0, s, 0) == 0 ? 1 : 0, s == 0 ? 1 : 0);
        }
    }

    private static void parsed() {
        ModeCells x = Check.told(TWO, 4);
        due("of no notes", x.parsed(0, 0), BAD);
        Check.play(x, 0, 4, 5, 7, 9);
        sameRow("parsed", Check.parse(x), List.of(0, 0, 0, 0, 0, 0, 0, 1, 0, 1));
        due("k 5", x.parsed(5, 0), BAD);
        due("k -1", x.parsed(-1, 0), BAD);
        due("k low", x.parsed(LOW, 0), BAD);
        due("k high", x.parsed(HIGH, 0), BAD);
        due("what 2", x.parsed(0, 2), BAD);
        due("what -1", x.parsed(0, -1), BAD);
        x.moves(2);
        sameRow("moved", Check.parse(x), List.of(2, 0, 2, 0, 2, 0, 2, 1, 2, 1));
        x.plays(60);
        due("none", x.parsed(0, 0), NONE);
        due("none", x.parsed(5, 1), NONE);
        due("none, but bad", x.parsed(6, 1), BAD);
        due("none, but bad", x.parsed(0, 2), BAD);
    }

    private static void reach() {
        ModeCells x = Check.told(TWO, 4);
        due("of no notes", x.reach(), 0);
        x.plays(60);
        due("no first", x.reach(), 0);
        x.plays(2);
        due("no first, a second", x.reach(), 0);
        x.mends(0, 0);
        due("both", x.reach(), 2);
        Check.play(x, 60, 0, 2);
        due("as far as the third", x.reach(), 2);
        x.mends(2, 4);
        due("mended", x.reach(), 5);
        x.keep(0);
        x.mends(1, 60);
        due("only one", x.reach(), 1);
        x.back(0);
        due("back", x.reach(), 5);
    }

    private static void fit() {
        ModeCells x = Check.told(TWO, 4);
        due("of no notes", x.fit(0), 0);
        Check.play(x, 5, 5, 6, 60, 12, 0);
        due("fit 0", x.fit(0), 4);
        due("fit 1", x.fit(1), 4);
        due("fit 2", x.fit(2), 1);
        due("a note in two parts counts once", x.fit(24), 4);
        due("no scale", x.fit(48), BAD);
        due("no scale", x.fit(-1), BAD);
        due("no scale", x.fit(LOW), BAD);
    }

    private static void home() {
        ModeCells x = Check.told(TWO, 4);
        due("of no notes", x.home(), 0);
        x.plays(60);
        due("in none", x.home(), 0);
        x.cuts();
        x.plays(23);
        due("lowest of several", x.home(), 11);
        Check.play(x, 0, 5, 6, 8, 10);
        due("most", x.home(), 24);
        due("cells alone", Check.told("c1;", 1).home(), NONE);
    }

    private static void sees() {
        ModeCells x = Check.told(TWO, 4);
        due("sees -1", x.sees(-1, 0), BAD);
        due("sees 121", x.sees(121, 0), BAD);
        due("sees is 2", x.sees(0, 2), BAD);
        due("sees is -1", x.sees(0, -1), BAD);
        due("forget nothing", x.forget(), 0);
        due("sees 0", x.sees(0, 0), 1);
        due("sees 120", x.sees(120, 0), 2);
        for (int n = 3; n <= 8; n++) {
            due("sees", x.sees(120, 0), n);
        }
        due("sees ninth", x.sees(0, 1), FULL);
        due("sees ninth, bad", x.sees(0, 2), BAD);
        due("all agree on a root", x.unseen(), 3);
        due("forget", x.forget(), 8);
        due("forget again", x.forget(), 0);
        due("sees anew", x.sees(0, 1), 1);
        due("none to undo of it", x.count(5), 0);
    }

    private static void unseen() {
        ModeCells x = Check.told("c2 2 1;c4;m0 2 0;m1;m1 3 1 3 1 3 1;", 5);
        due("nothing seen", x.unseen(), 7);
        x.sees(0, 1);
        due("0 is", x.unseen(), 7);
        x.sees(12, 1);
        due("12 is", x.unseen(), 1);
        x.sees(11, 0);
        due("11 is not", x.unseen(), 0);
        x.forget();
        x.sees(23 + 4 * 4 + 9, 1);
        due("the highest", x.unseen(), 4);
        x.sees(23 + 4 * 4 + 8, 0);
        due("the gap", x.unseen(), 4);
        x.forget();
        x.sees(5, 1);
        x.sees(5, 0);
        due("is and is not", x.unseen(), 0);
        x.forget();
        x.sees(120, 1);
        due("beyond all", x.unseen(), 0);
        due("told without modes", Check.told("c1;", 1).unseen(), 0);
    }

    private static void images() {
        ModeCells x = Check.told(TWO, 4);
        due("keep -1", x.keep(-1), BAD);
        due("keep 2", x.keep(2), BAD);
        due("back -1", x.back(-1), BAD);
        due("back 2", x.back(2), BAD);
        due("back none", x.back(0), STATE);
        due("keep nothing", x.keep(0), 0);
        Check.play(x, 1, 2, 3);
        due("keep", x.keep(1), 3);
        due("keep leaves undo", x.count(5), 3);
        x.sees(4, 1);
        x.mends(0, 9);
        x.cuts();
        Check.type(x, "c");
        due("back none changed", x.back(2), BAD);
        due("still to undo", x.count(5), 5);
        due("back", x.back(1), 3);
        Check.tune("back", x, 1, 2, 3);
        due("nothing to undo", x.count(5), 0);
        due("nothing to undo", x.undo(), STATE);
        due("seen stays", x.count(3), 1);
        due("text stays", x.count(4), 1);
        due("modes stay", x.count(1), 2);
        x.plays(4);
        due("undo behind", x.undo(), 0);
        due("the image is still there", x.back(1), 3);
        due("back to nothing", x.back(0), 0);
        Check.tune("back to nothing", x);
        due("kept anew", x.keep(1), 0);
        due("back to that", x.back(1), 0);
    }

    private static void count() {
        ModeCells x = Check.told("c1;c1;c1;m0;m0;", 5);
        Check.play(x, 1, 2, 3, 4);
        x.sees(1, 1);
        Check.type(x, "c1;m0;");
        x.cuts();
        int[] want = {3, 2, 3, 1, 6, 5};
        for (int what = 0; what < want.length; what++) {
            due("count " + what, x.count(what), want[what]);
        }
        due("count 6", x.count(6), BAD);
        due("count -1", x.count(-1), BAD);
        due("count low", x.count(LOW), BAD);
        due("count high", x.count(HIGH), BAD);
    }
}
