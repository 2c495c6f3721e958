import java.util.ArrayList;
import java.util.List;

/** Counts and prints the calls whose answer is not the one that is due. */
final class Check {
    private static int wrong = 0;
    private static int checks = 0;

    private Check() {
    }

    static void due(String call, int got, int want) {
        checks++;
        if (got != want) {
            wrong++;
            if (wrong <= 30) {
                System.out.println(call + " answered " + got + ", due is " + want);
            }
        }
    }

    static void report() {
        System.out.println(wrong == 0 ? checks + " answers are as due" : wrong + " answers are not as due");
        if (wrong != 0) {
            System.exit(1);
        }
    }

    static boolean failed() {
        return wrong != 0;
    }

    static void type(ModeCells x, String text) {
        for (int i = 0; i < text.length(); i++) {
            x.type(text.charAt(i));
        }
    }

    /** A new object that was told a text which has so many items. */
    static ModeCells told(String text, int items) {
        ModeCells x = new ModeCells();
        type(x, text);
        due("modes() of \"" + text + "\"", x.modes(), items);
        return x;
    }

    /** What modes() answers to a text on a new object. */
    static int answerTo(String text) {
        ModeCells x = new ModeCells();
        type(x, text);
        return x.modes();
    }

    static String padded(String text, int length) {
        StringBuilder padded = new StringBuilder(text);
        while (padded.length() < length) {
            padded.append(' ');
        }
        return padded.toString();
    }

    static void play(ModeCells x, int... notes) {
        for (int note : notes) {
            x.plays(note);
        }
    }

    static void tune(String where, ModeCells x, int... notes) {
        due(where + ": count(2)", x.count(2), notes.length);
        for (int k = 0; k < notes.length; k++) {
            due(where + ": note(" + k + ")", x.note(k), notes[k]);
        }
    }

    static List<Integer> parse(ModeCells x) {
        List<Integer> all = new ArrayList<>();
        for (int k = 0; k < x.count(2); k++) {
            all.add(x.parsed(k, 0));
            all.add(x.parsed(k, 1));
        }
        return all;
    }
}
