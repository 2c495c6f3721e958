import java.util.ArrayList;
import java.util.List;
import java.util.Random;

/**
 * Tunes that are played while walking from PART to PART and SCALE to SCALE, as the document lets a PARSE:
 * each has a PARSE, no dearer than the walk and, if as dear, no later; and THE PARSE is such a walk, too.
 */
public final class WalkTest {
    private static final int RUNS = 1500;

    private record Spot(int scale, int part) {
    }

    private final Random random;
    private final String run;
    private final int[][] cells;
    /** For each SCALE and PART: its CELL and its PITCH. */
    private final int[][][] scales;
    private final ModeCells x;
    private final List<Spot> walk = new ArrayList<>();
    private final List<Spot> parse = new ArrayList<>();
    private final List<Integer> tune = new ArrayList<>();
    private int cost = 0;

    private WalkTest(int seed) {
        random = new Random(seed);
        StringBuilder text = new StringBuilder();
        cells = new int[1 + below(4)][];
        for (int c = 0; c < cells.length; c++) {
            cells[c] = tellCell(text);
        }
        int modes = 1 + below(3);
        scales = new int[24 * modes][][];
        for (int m = 0; m < modes; m++) {
            tellMode(m, text);
        }
        run = "seed " + seed + ": " + text + " ";
        x = Check.told(text.toString(), cells.length + modes);
    }

    public static void main(String[] args) {
        int[] changes = new int[4];
        for (int seed = 0; seed < RUNS && !Check.failed(); seed++) {
            WalkTest test = new WalkTest(seed);
            test.play();
            test.readParse();
            if (!Check.failed()) {
                changes[Math.min(test.parseIsAWalk(), 3)]++;
                test.parseIsNoWorse();
            }
        }
        // Else the walks would be too simple to tell anything.
        for (int many = 0; many < 4; many++) {
            Check.due("walks with " + many + " changes of the scale", changes[many] >= 10 ? 1 : 0, 1);
        }
        Check.report();
    }

    private int below(int bound) {
        return random.nextInt(bound);
    }

    private int[] tellCell(StringBuilder text) {
        int[] steps = new int[1 + below(3)];
        text.append('c');
        for (int k = 0; k < steps.length; k++) {
            steps[k] = 1 + below(3);
            text.append(k == 0 ? "" : " ").append(steps[k]);
        }
        text.append(';');
        return steps;
    }

    private void tellMode(int m, StringBuilder text) {
        int[][] parts = new int[1 + below(4)][];
        int height = 0;
        for (int k = 0; k < parts.length; k++) {
            int gap = k == 0 ? 0 : below(4);
            int cell = below(cells.length);
            text.append(k == 0 ? "m" : " " + gap + " ").append(cell);
            parts[k] = new int[] {cell, height + gap};
            height += gap;
            for (int step : cells[cell]) {
                height += step;
            }
        }
        text.append(';');
        for (int root = 0; root < 24; root++) {
            int[][] placed = new int[parts.length][];
            for (int k = 0; k < parts.length; k++) {
                placed[k] = new int[] {parts[k][0], root + parts[k][1]};
            }
            scales[24 * m + root] = placed;
        }
    }

    private boolean isSame(Spot a, Spot b) {
        int[] one = scales[a.scale][a.part];
        int[] other = scales[b.scale][b.part];
        return one[0] == other[0] && one[1] == other[1];
    }

    private void play() {
        Spot at = new Spot(below(scales.length), 0);
        int notes = 1 + below(16);
        for (int k = 0; k < notes; k++) {
            Spot turned = below(2) == 0 ? new Spot(at.scale, below(scales[at.scale].length)) : at;
            Spot next = below(2) == 0 ? sharer(turned) : turned;
            int note = someNoteOf(next);
            if (note > 60) {
                return;
            }
            // At the first note one may be anywhere.
            cost += k == 0 ? 0 : (turned.equals(at) ? 0 : 1) + (next.scale == at.scale ? 0 : 10);
            at = next;
            walk.add(at);
            tune.add(note);
            Check.due(run + "plays " + note, x.plays(note), tune.size());
        }
    }

    private Spot sharer(Spot spot) {
        List<Spot> all = new ArrayList<>();
        for (int scale = 0; scale < scales.length; scale++) {
            for (int part = 0; part < scales[scale].length; part++) {
                if (isSame(spot, new Spot(scale, part))) {
                    all.add(new Spot(scale, part));
                }
            }
        }
        return all.get(below(all.size()));
    }

    private List<Integer> notesOf(Spot spot) {
        List<Integer> notes = new ArrayList<>();
        int at = scales[spot.scale][spot.part][1];
        notes.add(at);
        for (int step : cells[scales[spot.scale][spot.part][0]]) {
            at += step;
            notes.add(at);
        }
        return notes;
    }

    private int someNoteOf(Spot spot) {
        List<Integer> notes = notesOf(spot);
        return notes.get(below(notes.size()));
    }

    private void readParse() {
        Check.due(run + "reach", x.reach(), tune.size());
        for (int k = 0; k < tune.size(); k++) {
            Spot spot = new Spot(x.parsed(k, 0), x.parsed(k, 1));
            boolean is = spot.scale >= 0 && spot.scale < scales.length
                    && spot.part >= 0 && spot.part < scales[spot.scale].length;
            Check.due(run + "note " + k + " has a part: " + spot, is ? 1 : 0, 1);
            parse.add(spot);
        }
    }

    /** How often the SCALE changes. */
    private int parseIsAWalk() {
        int changes = 0;
        int turns = 0;
        for (int k = 0; k < parse.size(); k++) {
            Spot to = parse.get(k);
            Check.due(run + "note " + k + " is in its part", notesOf(to).contains(tune.get(k)) ? 1 : 0, 1);
            Spot from = parse.get(Math.max(k - 1, 0));
            int turned = -1;
            for (int part = 0; part < scales[from.scale].length; part++) {
                turned = isSame(new Spot(from.scale, part), to) ? part : turned;
            }
            Check.due(run + "note " + k + " is in a part that both have", turned >= 0 ? 1 : 0, 1);
            turns += turned == from.part ? 0 : 1;
            changes += from.scale == to.scale ? 0 : 1;
        }
        Check.due(run + "parse 0", x.parse(0), 10 * changes + turns);
        Check.due(run + "parse 1", x.parse(1), changes);
        Check.due(run + "parse 2", x.parse(2), turns);
        return changes;
    }

    private void parseIsNoWorse() {
        int least = x.parse(0);
        Check.due(run + "is no dearer", least <= cost ? 1 : 0, 1);
        int order = 0;
        for (int k = 0; k < walk.size() && order == 0; k++) {
            order = Integer.compare(parse.get(k).scale * 4 + parse.get(k).part,
                    walk.get(k).scale * 4 + walk.get(k).part);
        }
        Check.due(run + "is no later", least == cost && order > 0 ? 1 : 0, 0);
    }
}
