import java.util.Random;

/** Long runs of calls, drawn from fixed seeds, against the document's other reading in Oracle. */
public final class OracleTest {
    private static final int RUNS = 420;
    private static final int CALLS = 512;

    private final Random random;
    private final ModeCells x = new ModeCells();
    private final Oracle y = new Oracle();
    private final String run;
    private int calls = 0;

    private OracleTest(int seed) {
        random = new Random(seed);
        run = "seed " + seed + " call ";
    }

    public static void main(String[] args) {
        for (int seed = 0; seed < RUNS && !Check.failed(); seed++) {
            new OracleTest(seed).runCalls();
        }
        Check.report();
    }

    private void runCalls() {
        while (calls < CALLS) {
            if (calls == 0 || below(60) == 0) {
                tell(below(5) == 0 ? spoilt(text()) : below(5) == 0 ? widest() : text());
            }
            oneCall(below(30));
        }
    }

    private int below(int bound) {
        return random.nextInt(bound);
    }

    /** What an object answers behind its 512th call is free. */
    private void due(String call, int got, int want) {
        calls++;
        if (calls <= CALLS) {
            Check.due(run + calls + ": " + call, got, want);
        }
    }

    private void tell(String text) {
        for (int i = 0; i < text.length(); i++) {
            int letter = text.charAt(i);
            due("type " + letter, x.type(letter), y.type(letter));
        }
        due("modes of " + text, x.modes(), y.modes());
        if (below(2) == 0) {
            due("clear", x.clear(), y.clear());
        }
    }

    private String text() {
        StringBuilder text = new StringBuilder();
        int cells = 1 + below(below(3) == 0 ? 6 : 3);
        int steps = 1 + below(4);
        for (int c = 0; c < cells; c++) {
            text.append(blanks()).append('c');
            int many = 1 + below(steps);
            for (int k = 0; k < many; k++) {
                text.append(k == 0 ? blanks() : " " + blanks()).append(1 + below(below(2) == 0 ? 2 : 4));
            }
            text.append(blanks()).append(';');
        }
        int modes = below(below(3) == 0 ? 7 : 4);
        for (int m = 0; m < modes; m++) {
            text.append('m').append(below(cells));
            int more = below(4);
            for (int k = 0; k < more; k++) {
                text.append(' ').append(below(4)).append(' ').append(below(cells));
            }
            text.append(blanks()).append(';');
        }
        return text.toString();
    }

    private String widest() {
        StringBuilder text = new StringBuilder("c1;c2 1;c1 1;c2;c1 2;c4;");
        for (int m = 0; m < 6; m++) {
            text.append('m').append(below(6));
            for (int k = 0; k < 3; k++) {
                text.append(' ').append(below(4)).append(' ').append(below(6));
            }
            text.append(';');
        }
        return text.toString();
    }

    private String blanks() {
        return below(12) == 0 ? " " : "";
    }

    private String spoilt(String text) {
        StringBuilder spoilt = new StringBuilder(text);
        String signs = "cm;0123456789 x:";
        int times = 1 + below(2);
        for (int i = 0; i < times && spoilt.length() > 0; i++) {
            int at = below(spoilt.length());
            int how = below(4);
            if (how == 0) {
                spoilt.deleteCharAt(at);
            } else if (how == 1) {
                spoilt.setCharAt(at, signs.charAt(below(signs.length())));
            } else if (how == 2) {
                spoilt.insert(at, signs.charAt(below(signs.length())));
            } else {
                spoilt.setLength(at);
            }
        }
        return spoilt.toString();
    }

    private int scale() {
        int all = y.count(1) * 24;
        return all == 0 || below(25) == 0 ? below(200) - 25 : below(all);
    }

    /** Mostly a note near the ones that were played, so that there is often a parse. */
    private int note() {
        int size = y.count(2);
        if (below(30) == 0) {
            return below(70) - 4;
        }
        if (size > 1 && below(2) == 0) {
            return y.note(size - 2);
        }
        return size == 0 ? below(50) : y.note(size - 1) + below(9) - 4;
    }

    private void oneCall(int which) {
        if (which < 8) {
            doOne(which);
        } else if (which < 14) {
            askScales(which);
        } else if (which < 22) {
            askTune(which);
        } else {
            other(which);
        }
    }

    private void doOne(int which) {
        int k = below(18) - 1;
        int note = note();
        int by = below(6) == 0 ? below(50) - 25 : below(5) - 2;
        switch (which) {
            case 0, 1, 2, 3 -> due("plays " + note, x.plays(note), y.plays(note));
            case 4 -> due("cuts", x.cuts(), y.cuts());
            case 5 -> due("mends " + k + " " + note, x.mends(k, note), y.mends(k, note));
            case 6 -> due("moves " + by, x.moves(by), y.moves(by));
            default -> due("undo", x.undo(), y.undo());
        }
        boolean asks = below(5) == 0;
        for (int i = -1; asks && i <= y.count(2); i++) {
            due("note " + i, x.note(i), y.note(i));
        }
    }

    private void askScales(int which) {
        int s = scale();
        int t = below(3) == 0 ? s : scale();
        int k = below(7) - 2;
        int what = below(4) - 1;
        switch (which) {
            case 8 -> due("has", x.has(s, k * 12), y.has(s, k * 12));
            case 9 -> due("shares " + s + " " + t + " " + k, x.shares(s, t, k), y.shares(s, t, k));
            case 10 -> due("way " + s + " " + t + " " + k, x.way(s, t, k), y.way(s, t, k));
            case 11 -> due("farthest " + s + " " + what, x.farthest(s, what), y.farthest(s, what));
            case 12 -> due("part " + s + " " + k + " " + what, x.part(s, k, what), y.part(s, k, what));
            default -> due("cell " + what + " " + k, x.cell(what, k), y.cell(what, k));
        }
    }

    private void askTune(int which) {
        int s = scale();
        int k = below(18) - 1;
        int what = below(5) - 1;
        switch (which) {
            case 14 -> due("parse " + what, x.parse(what), y.parse(what));
            case 15 -> due("parsed " + k + " " + what, x.parsed(k, what), y.parsed(k, what));
            case 16 -> due("reach", x.reach(), y.reach());
            case 17 -> due("fit " + s, x.fit(s), y.fit(s));
            case 18 -> due("home", x.home(), y.home());
            case 19 -> wholeParse();
            default -> shortParse();
        }
    }

    private void wholeParse() {
        for (int what = 0; what < 3; what++) {
            due("parse " + what, x.parse(what), y.parse(what));
        }
        for (int k = 0; k < y.count(2); k++) {
            due("parsed " + k + " 0", x.parsed(k, 0), y.parsed(k, 0));
            due("parsed " + k + " 1", x.parsed(k, 1), y.parsed(k, 1));
        }
    }

    private void shortParse() {
        if (y.count(2) > 3) {
            return;
        }
        int[] spots = y.tryAll();
        for (int k = 0; k < y.count(2); k++) {
            due("short parsed " + k, x.parsed(k, 0), spots == null ? -9 : spots[k] / 4);
            due("short parsed " + k, x.parsed(k, 1), spots == null ? -9 : spots[k] % 4);
        }
        due("parse 0", x.parse(0), y.parse(0));
    }

    private void other(int which) {
        int image = below(10) == 0 ? below(6) - 2 : below(2);
        int note = below(10) == 0 ? below(140) - 8 : below(30);
        int is = below(12) == 0 ? below(5) - 2 : below(2);
        int what = below(9) - 1;
        switch (which) {
            case 22, 23 -> due("sees " + note + " " + is, x.sees(note, is), y.sees(note, is));
            case 24 -> due("unseen", x.unseen(), y.unseen());
            case 25 -> due("keep " + image, x.keep(image), y.keep(image));
            case 26 -> due("back " + image, x.back(image), y.back(image));
            case 27, 28 -> due("count " + what, x.count(what), y.count(what));
            default -> rareOther();
        }
    }

    private void rareOther() {
        int letter = below(300) - 20;
        switch (below(4)) {
            case 0 -> due("forget", x.forget(), y.forget());
            case 1 -> due("type " + letter, x.type(letter), y.type(letter));
            case 2 -> due("modes", x.modes(), y.modes());
            default -> due("clear", x.clear(), y.clear());
        }
    }
}
