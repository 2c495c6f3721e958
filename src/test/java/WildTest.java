/** Every call with every number from a row of edges and wild ones, in some states, against Oracle. */
public final class WildTest {
    private static final int CALLS = 512;
    private static final int LOW = Integer.MIN_VALUE, HIGH = Integer.MAX_VALUE;
    private static final int[] WILD = {LOW, LOW + 1, -256, -61, -24, -21, -20, -10, -3, -2, -1, 0, 1, 2, 3, 4, 5, 6,
        8, 10, 15, 16, 20, 21, 23, 24, 47, 48, 60, 61, 71, 72, 96, 120, 121, 130, 143, 144, 255, 256, HIGH - 1, HIGH};
    private static final int[] FEWER = {LOW, -2, -1, 0, 1, 2, 3, 4, 23, 24, 71, 72, HIGH};
    private static final String[] TEXTS = {"", "c1;", "c2 2 1;c4;m0 2 0;m1;m1 0 1;"};

    private final String text;
    private final int notes;
    private ModeCells x;
    private Oracle y;
    private int calls;

    private WildTest(String text, int notes) {
        this.text = text;
        this.notes = notes;
        makeAnew();
    }

    public static void main(String[] args) {
        for (String text : TEXTS) {
            for (int notes : new int[] {0, 3, 16}) {
                WildTest test = new WildTest(text, notes);
                test.callsOfOne();
                test.callsOfTwo();
                test.callsOfThree();
            }
        }
        Check.report();
    }

    private void makeAnew() {
        x = new ModeCells();
        y = new Oracle();
        calls = 0;
        for (int i = 0; i < text.length(); i++) {
            due("type", x.type(text.charAt(i)), y.type(text.charAt(i)));
        }
        due("modes", x.modes(), y.modes());
        for (int n = 0; n < notes; n++) {
            due("plays", x.plays(3 * n), y.plays(3 * n));
        }
        due("keep", x.keep(1), y.keep(1));
    }

    private void due(String call, int got, int want) {
        calls++;
        Check.due("\"" + text + "\", " + notes + " notes, call " + calls + ": " + call, got, want);
    }

    /** An object answers as promised for so many calls; a new one goes on. */
    private void leaveRoom(int more) {
        if (calls + more > CALLS) {
            makeAnew();
        }
    }

    private void callsOfOne() {
        for (int a : WILD) {
            leaveRoom(16);
            due("type " + a, x.type(a), y.type(a));
            due("plays " + a, x.plays(a), y.plays(a));
            due("moves " + a, x.moves(a), y.moves(a));
            due("note " + a, x.note(a), y.note(a));
            due("parse " + a, x.parse(a), y.parse(a));
            due("fit " + a, x.fit(a), y.fit(a));
            due("keep " + a, x.keep(a), y.keep(a));
            due("back " + a, x.back(a), y.back(a));
            due("count " + a, x.count(a), y.count(a));
        }
    }

    private void callsOfTwo() {
        for (int a : WILD) {
            for (int b : WILD) {
                leaveRoom(16);
                due("cell " + a + " " + b, x.cell(a, b), y.cell(a, b));
                due("mends " + a + " " + b, x.mends(a, b), y.mends(a, b));
                due("has " + a + " " + b, x.has(a, b), y.has(a, b));
                due("farthest " + a + " " + b, x.farthest(a, b), y.farthest(a, b));
                due("parsed " + a + " " + b, x.parsed(a, b), y.parsed(a, b));
                due("sees " + a + " " + b, x.sees(a, b), y.sees(a, b));
            }
        }
    }

    private void callsOfThree() {
        for (int a : FEWER) {
            for (int b : FEWER) {
                for (int c : FEWER) {
                    leaveRoom(16);
                    due("part " + a + " " + b + " " + c, x.part(a, b, c), y.part(a, b, c));
                    due("shares " + a + " " + b + " " + c, x.shares(a, b, c), y.shares(a, b, c));
                    due("way " + a + " " + b + " " + c, x.way(a, b, c), y.way(a, b, c));
                }
            }
        }
    }
}
