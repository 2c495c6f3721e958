/** The edges that the document names of what is SEEN, of UNSEEN and of count: promises 22 to 24, 27. */
public final class SeenEdgesTest {
    private static final int BAD = -1, FULL = -3;
    private static final int LOW = Integer.MIN_VALUE, HIGH = Integer.MAX_VALUE;

    public static void main(String[] args) {
        seenMayBe();
        isMayBe();
        seenAtMost();
        sameIsSeenAgain();
        forgotten();
        nothingSeen();
        noModes();
        lowestAndHighestRoot();
        oneRootForAll();
        notesThatAreNot();
        isAndIsNot();
        beyondAllScales();
        eachModeItsBit();
        seenAlone();
        countOfNone();
        countOfMost();
        countAsked();
        Check.report();
    }

    private static void due(String call, int got, int want) {
        Check.due(call, got, want);
    }

    /** "NOTES 0 .. 120". */
    private static void seenMayBe() {
        for (int note = 0; note <= 120; note++) {
            due("sees " + note, new ModeCells().sees(note, note % 2), 1);
        }
        for (int note : new int[] {-1, 121, LOW, HIGH}) {
            ModeCells x = new ModeCells();
            due("sees " + note, x.sees(note, 0), BAD);
            due("sees " + note, x.sees(note, 1), BAD);
            due("nothing seen", x.count(3), 0);
        }
    }

    /** "is 0, 1". */
    private static void isMayBe() {
        ModeCells x = new ModeCells();
        for (int is : new int[] {-1, 2, LOW, HIGH}) {
            due("is " + is, x.sees(5, is), BAD);
            due("is " + is, x.sees(121, is), BAD);
        }
        due("nothing seen", x.count(3), 0);
        due("is 0", x.sees(5, 0), 1);
        due("is 1", x.sees(6, 1), 2);
    }

    /** "SEEN (8 at most)"; "FULL: 8", behind BAD. */
    private static void seenAtMost() {
        ModeCells x = Check.told("c1;m0;", 2);
        for (int n = 1; n <= 8; n++) {
            due("sees the " + n + "th", x.sees(100 + n, 0), n);
        }
        due("all agree", x.unseen(), 1);
        due("sees the ninth", x.sees(5, 1), FULL);
        due("sees the ninth, the same", x.sees(101, 0), FULL);
        due("sees the ninth, bad", x.sees(121, 1), BAD);
        due("sees the ninth, bad", x.sees(-1, 1), BAD);
        due("sees the ninth, bad", x.sees(5, 2), BAD);
        due("still 8", x.count(3), 8);
        due("still agree", x.unseen(), 1);
        due("forget", x.forget(), 8);
        due("place again", x.sees(0, 1), 1);
        ModeCells y = Check.told("c1;m0;", 2);
        for (int n = 1; n <= 7; n++) {
            y.sees(100, 0);
        }
        due("agree", y.unseen(), 1);
        due("the eighth tells, too", y.sees(100, 1), 8);
        due("does not agree", y.unseen(), 0);
    }

    /** Each call that is not refused is one SEEN more. */
    private static void sameIsSeenAgain() {
        ModeCells x = Check.told("c1;m0;", 2);
        due("sees", x.sees(3, 1), 1);
        due("sees the same", x.sees(3, 1), 2);
        due("sees the opposite", x.sees(3, 0), 3);
        due("forget", x.forget(), 3);
    }

    /** "Nothing is SEEN: how much was." */
    private static void forgotten() {
        ModeCells x = Check.told("c1;m0;", 2);
        due("forget nothing", x.forget(), 0);
        x.sees(50, 1);
        x.plays(7);
        Check.type(x, "c");
        due("none", x.unseen(), 0);
        due("forget one", x.forget(), 1);
        due("nothing seen", x.count(3), 0);
        due("all again", x.unseen(), 1);
        due("forget again", x.forget(), 0);
        due("tune stays", x.count(2), 1);
        due("undo stays", x.count(5), 1);
        due("text stays", x.count(4), 1);
        due("modes stay", x.count(1), 1);
        x.sees(24, 1);
        due("what was forgotten does not count", x.unseen(), 1);
    }

    /** All MODES are so by nothing. */
    private static void nothingSeen() {
        String text = "c1;";
        for (int modes = 0; modes <= 6; modes++) {
            due(modes + " modes", Check.told(text, modes + 1).unseen(), (1 << modes) - 1);
            text = text + "m0;";
        }
    }

    private static void noModes() {
        ModeCells x = new ModeCells();
        x.sees(0, 0);
        due("new", x.unseen(), 0);
        ModeCells y = Check.told("c1;", 1);
        y.sees(0, 0);
        due("cells alone", y.unseen(), 0);
    }

    /** "on some ROOT": 0 .. 23. */
    private static void lowestAndHighestRoot() {
        for (int note = 0; note <= 120; note++) {
            ModeCells x = Check.told("c1;c4 4 4 4;m0;m1 3 1 3 1 3 1;", 4);
            x.sees(note, 1);
            int first = note <= 24 ? 1 : 0;
            int second = note <= 23 + 73 ? 2 : 0;
            due("sees " + note, x.unseen(), first + second);
        }
    }

    /** "by all that was SEEN": on one and the same ROOT. */
    private static void oneRootForAll() {
        ModeCells x = Check.told("c2;c1 1;m0;m1;", 4);
        x.sees(5, 1);
        due("5", x.unseen(), 3);
        x.sees(7, 1);
        due("5 7", x.unseen(), 3);
        x.sees(6, 1);
        due("5 6 7", x.unseen(), 2);
        x.sees(8, 1);
        due("5 6 7 8", x.unseen(), 0);
    }

    private static void notesThatAreNot() {
        ModeCells x = Check.told("c1;c1 1;m0;m1;", 4);
        x.sees(24, 1);
        due("24 is", x.unseen(), 3);
        x.sees(23, 0);
        due("23 is not: no root 24", x.unseen(), 0);
        x.forget();
        x.sees(5, 1);
        x.sees(4, 0);
        due("5 is, 4 is not", x.unseen(), 3);
        x.sees(6, 0);
        due("6 is not", x.unseen(), 0);
        x.forget();
        for (int note = 0; note < 8; note++) {
            x.sees(3 * note + 1, 0);
        }
        due("none of 1 4 7 .. 22: 2 3, and 23 24 25", x.unseen(), 3);
    }

    private static void isAndIsNot() {
        ModeCells x = Check.told("c1;m0;m0 3 0;", 3);
        x.sees(9, 1);
        x.sees(9, 0);
        due("is and is not", x.unseen(), 0);
    }

    private static void beyondAllScales() {
        ModeCells x = Check.told("c4 4 4 4;m0 3 0 3 0 3 0;", 2);
        x.sees(96, 1);
        due("the highest note", x.unseen(), 1);
        x.forget();
        x.sees(97, 1);
        due("above it", x.unseen(), 0);
        x.forget();
        x.sees(120, 0);
        due("120 is not", x.unseen(), 1);
        x.sees(120, 1);
        due("120 is", x.unseen(), 0);
    }

    /** "MODES (bits)": two notes so far apart are of some of six modes. */
    private static void eachModeItsBit() {
        ModeCells x = Check.told("c1;c2;c3;c4;c1 4;c2 4;m0;m1;m2;m3;m4;m5;", 12);
        int[] bits = {63, 1 + 16, 2 + 32, 4, 8 + 16 + 32, 16, 32, 0};
        for (int apart = 0; apart < bits.length; apart++) {
            x.forget();
            x.sees(10, 1);
            x.sees(10 + apart, 1);
            due(apart + " apart", x.unseen(), bits[apart]);
        }
    }

    /** The tune is not SEEN, and SEEN is not of the tune. */
    private static void seenAlone() {
        ModeCells x = Check.told("c1;m0;m0 1 0;", 3);
        Check.play(x, 0, 3);
        due("nothing seen", x.unseen(), 3);
        x.sees(0, 1);
        x.sees(3, 1);
        due("seen", x.unseen(), 2);
        x.cuts();
        due("cut", x.unseen(), 2);
        due("notes", x.count(2), 1);
    }

    private static void countOfNone() {
        ModeCells x = new ModeCells();
        for (int what = 0; what <= 5; what++) {
            due("count " + what, x.count(what), 0);
        }
    }

    private static void countOfMost() {
        ModeCells x = Check.told("c1;c1;c1;c1;c1;c1;m0;m0;m0;m0;m0;m0;", 12);
        for (int n = 0; n < 16; n++) {
            x.plays(n);
        }
        for (int n = 0; n < 8; n++) {
            x.sees(n, 0);
        }
        Check.type(x, Check.padded("", 130));
        int[] most = {6, 6, 16, 8, 130, 10};
        for (int what = 0; what <= 5; what++) {
            due("count " + what, x.count(what), most[what]);
        }
    }

    /** "BAD." */
    private static void countAsked() {
        for (int what : new int[] {-1, 6, 7, LOW, HIGH}) {
            due("count " + what, new ModeCells().count(what), BAD);
        }
    }
}
