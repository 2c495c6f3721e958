/** The edges that the document names of THE TEXT, CELLS, MODES and SCALES: promises 1 to 6. */
public final class TextEdgesTest {
    private static final int BAD = -1, STATE = -2, FULL = -3, NONE = -9;
    private static final int LOW = Integer.MIN_VALUE, HIGH = Integer.MAX_VALUE;
    private static final String FIGURES = "0123456789";

    public static void main(String[] args) {
        newObject();
        lettersMayBe();
        lettersAtMost();
        clearedText();
        noItems();
        cellsAtMost();
        stepsAtMost();
        stepsMayBe();
        modesAtMost();
        partsAtMost();
        gapsMayBe();
        cellsToldAhead();
        blanksAsMayBe();
        noBlanksNeeded();
        lettersThatMayFollow();
        numbersOfMoreFigures();
        firstWrongTokenTells();
        textEndsTooEarly();
        longestTexts();
        faultLeavesAll();
        faultIsTypedOn();
        allIsToldAnew();
        nothingIsToldAnew();
        cellEdges();
        partEdges();
        scaleEdges();
        Check.report();
    }

    private static void due(String call, int got, int want) {
        Check.due(call, got, want);
    }

    private static void reads(String text, int items) {
        due("modes() of \"" + text + "\"", Check.answerTo(text), items);
    }

    private static void fault(String text, int place) {
        reads(text, -10 - place);
    }

    /** "No CELLS, no MODES": and nothing else that a call could tell of. */
    private static void newObject() {
        ModeCells x = new ModeCells();
        for (int what = 0; what <= 5; what++) {
            due("new: count " + what, x.count(what), 0);
        }
        due("new: cell", x.cell(0, -1), BAD);
        due("new: part", x.part(0, -1, 0), BAD);
        due("new: note", x.note(0), BAD);
        due("new: has", x.has(0, 0), BAD);
        due("new: shares", x.shares(0, 0, -1), BAD);
        due("new: way", x.way(0, 0, -1), BAD);
        due("new: farthest", x.farthest(0, 0), BAD);
        due("new: fit", x.fit(0), BAD);
        due("new: home", x.home(), NONE);
        due("new: unseen", x.unseen(), 0);
        due("new: reach", x.reach(), 0);
        due("new: cuts", x.cuts(), STATE);
        due("new: moves", x.moves(1), STATE);
        due("new: undo", x.undo(), STATE);
        due("new: image 0", x.back(0), STATE);
        due("new: image 1", x.back(1), STATE);
        due("new: forget", x.forget(), 0);
        due("new: clear", x.clear(), 0);
    }

    /** "A letter (0 .. 255) comes to THE TEXT: how many it has. BAD". */
    private static void lettersMayBe() {
        for (int letter = 0; letter <= 255; letter++) {
            due("type " + letter, new ModeCells().type(letter), 1);
        }
        for (int letter : new int[] {-1, 256, -256, 256 + 'c', 'c' - 256, LOW, HIGH}) {
            ModeCells x = new ModeCells();
            due("type " + letter, x.type(letter), BAD);
            due("no letter came", x.count(4), 0);
        }
    }

    /** "FULL: 130", behind BAD. */
    private static void lettersAtMost() {
        ModeCells x = new ModeCells();
        for (int n = 1; n <= 130; n++) {
            due("type the " + n + "th", x.type(' '), n);
        }
        due("type the 131st", x.type(' '), FULL);
        due("type the 131st, 0", x.type(0), FULL);
        due("type the 131st, 255", x.type(255), FULL);
        due("type the 131st, bad", x.type(256), BAD);
        due("type the 131st, bad", x.type(-1), BAD);
        due("still 130", x.count(4), 130);
        due("the 130 are read", x.modes(), 0);
        due("and are gone", x.count(4), 0);
        due("so there is place again", x.type(' '), 1);
    }

    /** "THE TEXT is empty: how many letters it had." */
    private static void clearedText() {
        ModeCells x = new ModeCells();
        due("clear none", x.clear(), 0);
        x.type('x');
        due("clear one", x.clear(), 1);
        due("empty", x.count(4), 0);
        due("clear again", x.clear(), 0);
        Check.type(x, Check.padded("x", 130));
        due("clear 130", x.clear(), 130);
        due("place again", x.type('c'), 1);
        Check.type(x, "2;");
        due("what was cleared is not read", x.modes(), 1);
        due("what came behind is", x.cell(0, 0), 2);
        Check.play(x, 1, 2);
        x.sees(1, 1);
        x.keep(0);
        Check.type(x, "c");
        due("clear one", x.clear(), 1);
        due("cells stay", x.count(0), 1);
        Check.tune("tune stays", x, 1, 2);
        due("seen stays", x.count(3), 1);
        due("undo stays", x.count(5), 2);
        due("image stays", x.back(0), 2);
    }

    /** "ITEMS (none, too)". */
    private static void noItems() {
        reads("", 0);
        reads(" ", 0);
        reads("      ", 0);
        reads(Check.padded("", 130), 0);
        fault(";", 0);
        fault(" ;", 1);
    }

    /** "CELLS 0, 1, .. (6 at most)"; "a seventh c". */
    private static void cellsAtMost() {
        ModeCells x = Check.told("c1;c2;c3;c4;c1 1;c2 2;", 6);
        due("cells", x.count(0), 6);
        due("the sixth", x.cell(5, -1), 2);
        due("the sixth", x.cell(5, 1), 2);
        due("no seventh", x.cell(6, -1), BAD);
        fault("c1;c2;c3;c4;c1 1;c2 2;c", 22);
        fault("c1;c2;c3;c4;c1 1;c2 2;  c1;", 24);
        fault("c1;c1;m0;c1;c1;c1;m4;c1;c1;", 24);
        reads("c1;c1;m0;c1;c1;c1;m4;c1;m5;", 9);
    }

    /** "each of 1 to 4 STEPS"; "a fifth STEP". */
    private static void stepsAtMost() {
        fault("c;", 1);
        reads("c1;", 1);
        reads("c1 1;", 1);
        reads("c1 1 1;", 1);
        reads("c1 1 1 1;", 1);
        fault("c1 1 1 1 1;", 9);
        fault("c1 1 1 1  4", 10);
        fault("c1;c1 1 1 1 1;", 12);
        ModeCells x = Check.told("c1;c4 3 2 1;c2;", 3);
        int[] steps = {1, 4, 1};
        for (int c = 0; c < 3; c++) {
            due("steps of " + c, x.cell(c, -1), steps[c]);
        }
    }

    /** "STEPS (1 .. 4 each)": any other NUMBER can't stand there, as any STEP of the four. */
    private static void stepsMayBe() {
        String ahead = "c";
        for (int k = 0; k < 4; k++) {
            for (int step = 0; step <= 9; step++) {
                if (step >= 1 && step <= 4) {
                    ModeCells x = Check.told(ahead + step + ";", 1);
                    due("step " + k + " of " + ahead + step, x.cell(0, k), step);
                } else {
                    fault(ahead + step + ";", ahead.length());
                }
            }
            ahead = ahead + (4 - k) + " ";
        }
    }

    /** "MODES 0, 1, .. (6 at most)"; "a seventh m". */
    private static void modesAtMost() {
        ModeCells x = Check.told("c1;m0;m0;m0;m0;m0;m0 3 0;", 7);
        due("modes", x.count(1), 6);
        due("the sixth", x.part(5 * 24, -1, 0), 2);
        due("the sixth, highest root", x.part(6 * 24 - 1, 1, 1), 23 + 4);
        due("no seventh", x.part(6 * 24, -1, 0), BAD);
        fault("c1;m0;m0;m0;m0;m0;m0 3 0;m", 25);
        fault("c1;m0;m0;m0;m0;m0;m0 3 0; m0;", 26);
        reads("c1;m0;m0;m0;m0;m0;m0 3 0;c1;", 8);
        reads("c1;c1;c1;c1;c1;c1;m0;m1;m2;m3;m4;m5;", 12);
        fault("c1;c1;c1;c1;c1;c1;m0;m1;m2;m3;m4;m5;m", 36);
        fault("c1;c1;c1;c1;c1;c1;m0;m1;m2;m3;m4;m5;c", 36);
    }

    /** "each of 1 to 4 CELLS"; "then up to three times a GAP and a CELL". */
    private static void partsAtMost() {
        fault("c1;m;", 4);
        String mode = "c1;m0";
        for (int parts = 1; parts <= 4; parts++) {
            ModeCells x = Check.told(mode + ";", 2);
            due("parts of " + mode, x.part(0, -1, 0), parts);
            due("the last of " + mode, x.part(0, parts - 1, 1), 2 * (parts - 1));
            due("no more of " + mode, x.part(0, parts, 1), NONE);
            if (parts < 4) {
                fault(mode + " 1;", mode.length() + 2);
            } else {
                fault(mode + " 1 0;", mode.length() + 1);
                fault(mode + " 1", mode.length() + 1);
            }
            mode = mode + " 1 0";
        }
    }

    /** "a GAP (0 .. 3) above the last note of the one ahead", as any of the three. */
    private static void gapsMayBe() {
        String ahead = "c2 1;m0 ";
        int pitch = 0;
        for (int k = 1; k < 4; k++) {
            for (int gap = 0; gap <= 9; gap++) {
                if (gap <= 3) {
                    ModeCells x = Check.told(ahead + gap + " 0;", 2);
                    due("pitch behind " + ahead + gap, x.part(0, k, 1), pitch + 3 + gap);
                    due("pitch behind " + ahead + gap, x.part(23, k, 1), 23 + pitch + 3 + gap);
                } else {
                    fault(ahead + gap + " 0;", ahead.length());
                }
            }
            ahead = ahead + (3 - k) + " 0 ";
            pitch += 3 + (3 - k);
        }
    }

    /** "of CELLS told ahead"; "a CELL that there is not", as any of the four. */
    private static void cellsToldAhead() {
        fault("m0;", 1);
        fault("m0;c1;", 1);
        fault("c1;m1;c1;", 4);
        reads("c1;m0;c1;m1;", 4);
        fault("c1;m0;c1;m2;c1;", 10);
        String cells = "";
        for (int many = 1; many <= 6; many++) {
            cells = cells + "c1;";
            String ahead = cells + "m";
            for (int k = 0; k < 4; k++) {
                for (int c = 0; c <= 9; c++) {
                    if (c < many) {
                        ModeCells x = Check.told(ahead + c + ";", many + 1);
                        due("cell of " + ahead + c, x.part(0, k, 0), c);
                    } else {
                        fault(ahead + c + ";", ahead.length());
                    }
                }
                ahead = ahead + "0 0 ";
            }
        }
    }

    /** "blanks (32) ahead of, between and behind TOKENS as may be". */
    private static void blanksAsMayBe() {
        reads(" c1;", 1);
        reads("c 1;", 1);
        reads("c1 ;", 1);
        reads("c1; ", 1);
        reads("c1   2;", 1);
        reads("   c   1   2   ;   m   0   3   0   ;   ", 2);
        fault("   c   1   2   ;   m   0   3   0   ;   x", 39);
        fault("c 1 0;", 4);
        ModeCells x = Check.told("  c  4  3 ;  m  0  2  0  ;  ", 2);
        due("steps", x.cell(0, -1), 2);
        due("second step", x.cell(0, 1), 3);
        due("second part", x.part(0, 1, 1), 9);
        for (int letter : new int[] {9, 10, 13, 0, 31, 33, 160}) {
            fault("c1;" + (char) letter + "m0;", 3);
            fault("c" + (char) letter + "1;", 1);
            fault("c1;m0" + (char) letter + "0 0;", 5);
        }
    }

    /** "none needed where TOKENS end without"; between two NUMBERS they don't. */
    private static void noBlanksNeeded() {
        reads("c1;c1 2;m0;m1 3 0;", 4);
        ModeCells x = Check.told("c1;c1 2;m0;m1 3 0;", 4);
        due("first cell", x.cell(0, -1), 1);
        due("second cell", x.cell(1, -1), 2);
        due("second mode", x.part(24, 1, 1), 6);
        fault("c12;", 1);
        fault("c1;m00 0;", 4);
        fault("c1;m0 00;", 6);
        fault("c1;m000;", 4);
    }

    /** At each place in an ITEM every letter; what can't stand there is FAULT's place. */
    private static void lettersThatMayFollow() {
        follows("", "cm", " ", 0);
        follows("c", "1234 ", "", 0);
        follows("c ", "1234 ", "", 0);
        follows("c1", " ", ";", 1);
        follows("c1 ", "1234 ", ";", 1);
        follows("c1 2", " ", ";", 1);
        follows("c1 2 3 ", "1234 ", ";", 1);
        follows("c1 2 3 4", " ", ";", 1);
        follows("c1 2 3 4 ", " ", ";", 1);
        follows("c1;", "cm", " ", 1);
        follows("c1;c2;m", "01 ", "", 0);
        follows("c1;m0", " ", ";", 2);
        follows("c1;m0 ", "0123 ", ";", 2);
        follows("c1;m0 0", " ", "", 0);
        follows("c1;c2;m0 0 ", "01 ", "", 0);
        follows("c1;m0 0 0", " ", ";", 2);
        follows("c1;m0 0 0 ", "0123 ", ";", 2);
        follows("c1;m0 0 0 1 0 ", "0123 ", ";", 2);
        follows("c1;c2;m0 0 0 1 0 2 ", "01 ", "", 0);
        follows("c1;m0 0 0 1 0 2 0", " ", ";", 2);
        follows("c1;m0 0 0 1 0 2 0 ", " ", ";", 2);
        follows("c1;m0;", "cm", " ", 2);
        follows("c1;c1;c1;c1;c1;c1;", "m", " ", 6);
        follows("c1;m0;m0;m0;m0;m0;m0;", "c", " ", 7);
        follows("c1;c1;c1;c1;c1;c1;m0;m0;m0;m0;m0;m0;", "", " ", 12);
    }

    /** A figure behind a figure makes that NUMBER one of two figures, which is wrong at its first one. */
    private static void follows(String ahead, String goesOn, String whole, int items) {
        int length = ahead.length();
        boolean inNumber = length > 0 && FIGURES.indexOf(ahead.charAt(length - 1)) >= 0;
        for (char letter = 0; letter <= 255; letter++) {
            String text = ahead + letter;
            if (whole.indexOf(letter) >= 0) {
                reads(text, items);
            } else if (goesOn.indexOf(letter) >= 0) {
                fault(text, length + 1);
            } else if (inNumber && FIGURES.indexOf(letter) >= 0) {
                fault(text, length - 1);
            } else {
                fault(text, length);
            }
        }
    }

    /** "a NUMBER above 9 or with a 0 ahead of others, that TOKEN's". */
    private static void numbersOfMoreFigures() {
        String[] numbers = {"00", "01", "04", "10", "11", "14", "99", "000", "001", "100", "0000000001",
            "4294967297", "18446744073709551617", "99999999999999999999999999999999999999"};
        String[] ahead = {"", "c", "c1 ", "c1 2 3 4 ", "c1;", "c1;m", "c1;m0 ", "c1;m0 0 ",
            "c1;m0 0 0 0 0 0 0 ", "   c   "};
        for (String number : numbers) {
            for (String a : ahead) {
                fault(a + number, a.length());
                fault(a + number + ";", a.length());
                fault(a + number + " 0 x", a.length());
            }
        }
    }

    /** "the first TOKEN that can't stand there": whatever is wrong further on. */
    private static void firstWrongTokenTells() {
        fault("x c0;", 0);
        fault("c5 x;", 1);
        fault("c0 12;", 1);
        fault("c1 x 5;", 3);
        fault("c1 2 3 4 1 x", 9);
        fault("c1 2 3 4 1 12", 9);
        fault("c1;m1 x", 4);
        fault("c1;m0 4 99;", 6);
        fault("c1;m0 0 1 x", 8);
        fault("c1;m0 0; x", 7);
        fault("c1;; 12", 3);
        fault("c1 c1 x", 3);
        fault("c1;c1;c1;c1;c1;c1;c x", 18);
        fault("c1;m0;m0;m0;m0;m0;m0;m 99", 21);
        fault("c 12 x", 2);
        fault("c 1x2", 3);
    }

    /** "the text's length, if it ends too early": blanks at its end are letters of it. */
    private static void textEndsTooEarly() {
        String[] early = {"c", "c1", "c1 2 3 4", "m", "c1;m", "c1;m0", "c1;m0 0", "c1;m0 0 0",
            "c1;m0 0 0 0 0 0 0", "c1;m0;c", "c1;m0;c2"};
        for (String text : early) {
            fault(text, text.length());
            fault(text + " ", text.length() + 1);
            fault(text + "     ", text.length() + 5);
            fault(Check.padded(text, 130), 130);
        }
        fault(Check.padded("", 129) + "c", 130);
        fault(Check.padded("", 129) + "m", 130);
        fault(Check.padded("", 128) + "c4", 130);
    }

    /** "130 letters at most": a text of all of them is read to its last letter. */
    private static void longestTexts() {
        reads(Check.padded("", 127) + "c1;", 1);
        reads(Check.padded("c1;", 130), 1);
        reads(Check.padded("c1", 129) + ";", 1);
        fault(Check.padded("c1;", 129) + ";", 129);
        fault(Check.padded("c1;", 129) + "0", 129);
        fault(Check.padded("c1;", 128) + "12", 128);
        fault(Check.padded("c1;", 129) + "c", 130);
        String mode = "m0 3 0 3 0 3 0;";
        String most = "c4 4 4 4;c1;c1;c1;c1;c1;" + mode + mode + mode + mode + mode + mode;
        ModeCells x = Check.told(Check.padded(most, 130), 12);
        due("cells", x.count(0), 6);
        due("modes", x.count(1), 6);
        due("highest pitch", x.part(143, 3, 1), 80);
    }

    private static ModeCells busy() {
        ModeCells x = Check.told("c2 2 1;c4;m0 2 0;m1;", 4);
        Check.play(x, 5, 7, 12);
        x.keep(0);
        x.moves(1);
        x.keep(1);
        x.sees(4, 1);
        x.sees(5, 0);
        return x;
    }

    /** "-10 less FAULT: nothing changes (THE TEXT, too, stays)". */
    private static void faultLeavesAll() {
        for (String text : new String[] {"x", "c1;m0;c", "c4;m0;;", "c1;c1;c1;c1;c1;c1;c1;", "c1;m0;12"}) {
            ModeCells x = busy();
            Check.type(x, text);
            int fault = x.modes();
            due(text + " has a fault", fault <= -10 ? 1 : 0, 1);
            due(text + ": told again", x.modes(), fault);
            due(text + ": text", x.count(4), text.length());
            due(text + ": cells", x.count(0), 2);
            due(text + ": steps", x.cell(0, -1), 3);
            due(text + ": step", x.cell(1, 0), 4);
            due(text + ": modes", x.count(1), 2);
            due(text + ": parts", x.part(0, -1, 0), 2);
            due(text + ": pitch", x.part(3, 1, 1), 10);
            due(text + ": second mode", x.part(24, 0, 0), 1);
            Check.tune(text, x, 6, 8, 13);
            due(text + ": parse", x.parse(0), 1);
            due(text + ": seen", x.count(3), 2);
            due(text + ": unseen", x.unseen(), 3);
            due(text + ": undo", x.undo(), 3);
            Check.tune(text, x, 5, 7, 12);
            due(text + ": image 1", x.back(1), 3);
            Check.tune(text, x, 6, 8, 13);
            due(text + ": image 0", x.back(0), 3);
            Check.tune(text, x, 5, 7, 12);
            due(text + ": text", x.clear(), text.length());
        }
    }

    /** The text stays as it was, so that letters come behind it. */
    private static void faultIsTypedOn() {
        ModeCells x = new ModeCells();
        String text = " c3 1;m0 2 0 ;";
        for (int i = 0; i < text.length() - 1; i++) {
            due("type", x.type(text.charAt(i)), i + 1);
            if (i != 0 && i != 5) {
                due("modes() of the first " + (i + 1), x.modes(), -10 - (i + 1));
            }
        }
        x.type(';');
        due("whole", x.modes(), 2);
        due("second part", x.part(0, 1, 1), 6);
    }

    /** "Read anew: as told, THE TUNE is empty, nothing SEEN or to be UNDONE, IMAGES are gone." */
    private static void allIsToldAnew() {
        ModeCells x = busy();
        due("far", x.way(0, 7, -1), 2);
        due("cost", x.parse(0), 1);
        Check.type(x, "c1;");
        due("told", x.modes(), 1);
        isEmptyBut(x, 1, 0);
        due("as told", x.cell(0, -1), 1);
        due("no second cell", x.cell(1, -1), BAD);
        due("no mode", x.part(0, -1, 0), BAD);
        due("no home", x.home(), NONE);
        ModeCells y = busy();
        due("far", y.way(0, 7, -1), 2);
        due("far", y.farthest(0, 0), 4);
        Check.type(y, "c3;m0;");
        due("told", y.modes(), 2);
        isEmptyBut(y, 1, 1);
        due("no way any more", y.way(0, 7, -1), NONE);
        due("not far any more", y.farthest(0, 0), 1);
        Check.play(y, 6);
        due("parsed anew", y.parsed(0, 0), 3);
        y.undo();
        due("none of what was undone", y.undo(), STATE);
        due("unseen", y.unseen(), 1);
    }

    private static void isEmptyBut(ModeCells x, int cells, int modes) {
        due("anew: text", x.count(4), 0);
        due("anew: cells", x.count(0), cells);
        due("anew: modes", x.count(1), modes);
        due("anew: tune", x.count(2), 0);
        due("anew: note", x.note(0), BAD);
        due("anew: parse", x.parse(0), 0);
        due("anew: reach", x.reach(), 0);
        due("anew: seen", x.count(3), 0);
        due("anew: forget", x.forget(), 0);
        due("anew: undo", x.count(5), 0);
        due("anew: undo", x.undo(), STATE);
        due("anew: image 0", x.back(0), STATE);
        due("anew: image 1", x.back(1), STATE);
    }

    /** A text of no ITEMS tells all anew, too. */
    private static void nothingIsToldAnew() {
        ModeCells x = busy();
        due("nothing told", x.modes(), 0);
        isEmptyBut(x, 0, 0);
        due("unseen", x.unseen(), 0);
        ModeCells y = busy();
        Check.type(y, "   ");
        due("blanks told", y.modes(), 0);
        isEmptyBut(y, 0, 0);
    }

    /** "NONE: it has not so many. BAD (k below -1)." */
    private static void cellEdges() {
        ModeCells x = Check.told("c4;c1 2 3 4;c3 2;", 3);
        int[] steps = {1, 4, 2};
        for (int c = 0; c < 3; c++) {
            due("cell " + c + " -1", x.cell(c, -1), steps[c]);
            due("cell " + c + " last", x.cell(c, steps[c] - 1) > 0 ? 1 : 0, 1);
            due("cell " + c + " behind the last", x.cell(c, steps[c]), NONE);
            due("cell " + c + " high", x.cell(c, HIGH), NONE);
            due("cell " + c + " -2", x.cell(c, -2), BAD);
            due("cell " + c + " low", x.cell(c, LOW), BAD);
        }
        for (int c : new int[] {-1, 3, 6, LOW, HIGH}) {
            for (int k : new int[] {-2, -1, 0, 4}) {
                due("cell " + c + " " + k, x.cell(c, k), BAD);
            }
        }
    }

    /** "k = -1; what is 0 or 1 all the same"; "NONE: it has not so many. BAD (k below -1)." */
    private static void partEdges() {
        ModeCells x = Check.told("c1;m0;m0 0 0;m0 0 0 0 0 0 0;", 4);
        int[] parts = {1, 2, 4};
        for (int m = 0; m < 3; m++) {
            for (int what = 0; what <= 1; what++) {
                String part = "part " + m + " " + what + " ";
                due(part + "-1", x.part(24 * m, -1, what), parts[m]);
                due(part + "last", x.part(24 * m + 23, parts[m] - 1, what), what * (23 + parts[m] - 1));
                due(part + "behind the last", x.part(24 * m + 23, parts[m], what), NONE);
                due(part + "high", x.part(24 * m, HIGH, what), NONE);
                due(part + "-2", x.part(24 * m, -2, what), BAD);
                due(part + "low", x.part(24 * m, LOW, what), BAD);
            }
            for (int what : new int[] {-1, 2, LOW, HIGH}) {
                due("what " + what + ", -1", x.part(24 * m, -1, what), BAD);
                due("what " + what + ", 0", x.part(24 * m, 0, what), BAD);
                due("what " + what + ", none", x.part(24 * m, 4, what), BAD);
            }
        }
    }

    /** "a MODE m on a ROOT r (0 .. 23), a number: 24 m and r": none beyond the last MODE's. */
    private static void scaleEdges() {
        String text = "c1;";
        for (int modes = 0; modes <= 6; modes++) {
            ModeCells x = Check.told(text, modes + 1);
            for (int m = 0; m < modes; m++) {
                due("lowest root", x.part(24 * m, 0, 1), 0);
                due("highest root", x.part(24 * m + 23, 0, 1), 23);
            }
            for (int scale : new int[] {-24, -1, 24 * modes, 24 * modes + 23, 24 * 6, LOW, HIGH}) {
                due(modes + " modes: part " + scale, x.part(scale, 0, 0), BAD);
                due(modes + " modes: has " + scale, x.has(scale, 0), BAD);
                due(modes + " modes: fit " + scale, x.fit(scale), BAD);
                due(modes + " modes: farthest " + scale, x.farthest(scale, 0), BAD);
                due(modes + " modes: shares with " + scale, x.shares(0, scale, -1), BAD);
                due(modes + " modes: shares of " + scale, x.shares(scale, 0, -1), BAD);
                due(modes + " modes: way to " + scale, x.way(0, scale, -1), BAD);
                due(modes + " modes: way from " + scale, x.way(scale, 0, -1), BAD);
            }
            text = text + "m0;";
        }
    }
}
