import java.util.ArrayList;
import java.util.Arrays;
import java.util.List;
import java.util.Set;
import java.util.TreeSet;

/**
 * The document once more, by other means than the program's: scales are written out as sets of notes,
 * ways and parses are compared as whole rows.
 */
final class Oracle {
    static final int BAD = -1, STATE = -2, FULL = -3, NONE = -9;

    private record Placed(int cell, int pitch) {
    }

    private record Token(char kind, int value, int at) {
    }

    private record Row(int cost, int scales, int parts, int[] spots) {
    }

    private StringBuilder text = new StringBuilder();
    private List<List<Integer>> cells = new ArrayList<>();
    private List<List<Integer>> modes = new ArrayList<>();
    private List<List<Placed>> scales = new ArrayList<>();
    private List<Integer> tune = new ArrayList<>();
    private List<List<Integer>> past = new ArrayList<>();
    private List<List<Integer>> images = new ArrayList<>(Arrays.asList(null, null));
    private List<int[]> seen = new ArrayList<>();
    private Row parse;
    private boolean parseKnown = false;

    // ---- what is told

    int type(int letter) {
        if (letter < 0 || letter > 255) {
            return BAD;
        }
        if (text.length() == 130) {
            return FULL;
        }
        text.append((char) letter);
        return text.length();
    }

    int clear() {
        int had = text.length();
        text = new StringBuilder();
        return had;
    }

    int modes() {
        List<Token> tokens = tokens();
        List<List<Integer>> newCells = new ArrayList<>();
        List<List<Integer>> newModes = new ArrayList<>();
        List<Integer> item = null;
        boolean isCell = false;
        int items = 0;
        for (Token t : tokens) {
            if (t.kind == '?') {
                return -10 - t.at;
            }
            boolean good;
            if (item == null) {
                isCell = t.kind == 'c';
                good = t.kind == 'c' && newCells.size() < 6 || t.kind == 'm' && newModes.size() < 6;
                item = new ArrayList<>();
            } else if (t.kind == ';') {
                good = isCell ? item.size() >= 1 : item.size() % 2 == 1;
                (isCell ? newCells : newModes).add(item);
                item = null;
                items++;
            } else if (t.kind != '#') {
                good = false;
            } else {
                boolean isGap = item.size() % 2 == 1;
                int low = isCell ? 1 : 0;
                int high = isCell ? 4 : isGap ? 3 : newCells.size() - 1;
                good = t.value >= low && t.value <= high && item.size() < (isCell ? 4 : 7);
                item.add(t.value);
            }
            if (!good) {
                return -10 - t.at;
            }
        }
        if (item != null) {
            return -10 - text.length();
        }
        cells = newCells;
        modes = newModes;
        makeScales();
        text = new StringBuilder();
        setTune(new ArrayList<>());
        past.clear();
        images = new ArrayList<>(Arrays.asList(null, null));
        seen.clear();
        return items;
    }

    private List<Token> tokens() {
        List<Token> all = new ArrayList<>();
        int i = 0;
        while (i < text.length()) {
            char c = text.charAt(i);
            int from = i;
            if (c >= '0' && c <= '9') {
                while (i < text.length() && text.charAt(i) >= '0' && text.charAt(i) <= '9') {
                    i++;
                }
                String figures = text.substring(from, i);
                boolean good = figures.length() == 1;
                all.add(new Token(good ? '#' : '?', good ? c - '0' : -1, from));
                continue;
            }
            if (c != ' ') {
                all.add(new Token(c == 'c' || c == 'm' || c == ';' ? c : '?', -1, from));
            }
            i++;
        }
        return all;
    }

    private void makeScales() {
        scales = new ArrayList<>();
        for (List<Integer> mode : modes) {
            for (int root = 0; root < 24; root++) {
                List<Placed> parts = new ArrayList<>();
                int pitch = root;
                for (int i = 0; i < mode.size(); i += 2) {
                    pitch += i == 0 ? 0 : mode.get(i - 1);
                    parts.add(new Placed(mode.get(i), pitch));
                    for (int step : cells.get(mode.get(i))) {
                        pitch += step;
                    }
                }
                scales.add(parts);
            }
        }
    }

    private Set<Integer> notesOf(Placed p) {
        Set<Integer> notes = new TreeSet<>();
        int at = p.pitch;
        notes.add(at);
        for (int step : cells.get(p.cell)) {
            at += step;
            notes.add(at);
        }
        return notes;
    }

    int cell(int c, int k) {
        if (c < 0 || c >= cells.size() || k < -1) {
            return BAD;
        }
        return k == -1 ? cells.get(c).size() : k < cells.get(c).size() ? cells.get(c).get(k) : NONE;
    }

    private boolean isScale(int s) {
        return s >= 0 && s < scales.size();
    }

    int part(int s, int k, int what) {
        if (!isScale(s) || k < -1 || what != 0 && what != 1) {
            return BAD;
        }
        if (k == -1) {
            return scales.get(s).size();
        }
        if (k >= scales.get(s).size()) {
            return NONE;
        }
        Placed p = scales.get(s).get(k);
        return what == 0 ? p.cell : p.pitch;
    }

    // ---- what is done

    private void setTune(List<Integer> notes) {
        tune = notes;
        parseKnown = false;
    }

    private void becomes(List<Integer> notes) {
        past.add(tune);
        if (past.size() > 10) {
            past.remove(0);
        }
        setTune(notes);
    }

    int plays(int note) {
        if (note < 0 || note > 60) {
            return BAD;
        }
        if (tune.size() == 16) {
            return FULL;
        }
        List<Integer> next = new ArrayList<>(tune);
        next.add(note);
        becomes(next);
        return tune.size();
    }

    int cuts() {
        if (tune.isEmpty()) {
            return STATE;
        }
        int was = tune.get(tune.size() - 1);
        becomes(new ArrayList<>(tune.subList(0, tune.size() - 1)));
        return was;
    }

    int mends(int k, int note) {
        if (k < 0 || k >= tune.size() || note < 0 || note > 60) {
            return BAD;
        }
        int was = tune.get(k);
        if (was == note) {
            return STATE;
        }
        List<Integer> next = new ArrayList<>(tune);
        next.set(k, note);
        becomes(next);
        return was;
    }

    int moves(int by) {
        if (by < -20 || by > 20) {
            return BAD;
        }
        List<Integer> next = new ArrayList<>();
        for (int note : tune) {
            if (note + by < 0 || note + by > 60) {
                return BAD;
            }
            next.add(note + by);
        }
        if (tune.isEmpty() || by == 0) {
            return STATE;
        }
        becomes(next);
        return tune.size();
    }

    int undo() {
        if (past.isEmpty()) {
            return STATE;
        }
        setTune(past.remove(past.size() - 1));
        return past.size();
    }

    int note(int k) {
        return k < 0 || k >= tune.size() ? BAD : tune.get(k);
    }

    // ---- scales

    int has(int s, int note) {
        if (!isScale(s) || note < 0 || note > 60) {
            return BAD;
        }
        int in = 0;
        for (Placed p : scales.get(s)) {
            in += notesOf(p).contains(note) ? 1 : 0;
        }
        return in;
    }

    int shares(int s, int other, int k) {
        if (!isScale(s) || !isScale(other) || k < -1) {
            return BAD;
        }
        List<Integer> shared = new ArrayList<>();
        for (int p = 0; p < scales.get(s).size(); p++) {
            if (scales.get(other).contains(scales.get(s).get(p))) {
                shared.add(p);
            }
        }
        return k == -1 ? shared.size() : k < shared.size() ? shared.get(k) : NONE;
    }

    /** THE WAYS from a scale to all, by lowest whole rows, round by round. */
    private List<List<Integer>> waysFrom(int from) {
        List<List<Integer>> ways = new ArrayList<>();
        for (int s = 0; s < scales.size(); s++) {
            ways.add(null);
        }
        ways.set(from, List.of(from));
        boolean more = true;
        for (int length = 1; more; length++) {
            more = false;
            List<List<Integer>> found = new ArrayList<>(ways);
            for (int s = 0; s < scales.size(); s++) {
                if (ways.get(s) == null || ways.get(s).size() != length) {
                    continue;
                }
                for (int t = 0; t < scales.size(); t++) {
                    if (ways.get(t) != null || shares(s, t, -1) == 0) {
                        continue;
                    }
                    List<Integer> way = new ArrayList<>(ways.get(s));
                    way.add(t);
                    if (found.get(t) == null || isLower(way, found.get(t))) {
                        found.set(t, way);
                    }
                    more = true;
                }
            }
            ways = found;
        }
        return ways;
    }

    private static boolean isLower(List<Integer> a, List<Integer> b) {
        for (int i = 0; i < a.size(); i++) {
            if (!a.get(i).equals(b.get(i))) {
                return a.get(i) < b.get(i);
            }
        }
        return false;
    }

    int way(int from, int to, int k) {
        if (!isScale(from) || !isScale(to) || k < -1) {
            return BAD;
        }
        List<Integer> way = waysFrom(from).get(to);
        if (way == null) {
            return NONE;
        }
        return k == -1 ? way.size() : k < way.size() ? way.get(k) : NONE;
    }

    int farthest(int s, int what) {
        if (!isScale(s) || what != 0 && what != 1) {
            return BAD;
        }
        List<List<Integer>> ways = waysFrom(s);
        int most = 0;
        int far = -1;
        for (int t = 0; t < ways.size(); t++) {
            if (ways.get(t) != null && ways.get(t).size() > most) {
                most = ways.get(t).size();
                far = t;
            }
        }
        return what == 0 ? most : far;
    }

    // ---- the tune

    /** The best rows of the notes up to the k-th, one for each spot at which it may be. */
    private List<Row> best(int k) {
        List<Row> ahead = k == 0 ? null : best(k - 1);
        List<Row> rows = new ArrayList<>();
        for (int s = 0; s < scales.size(); s++) {
            for (int p = 0; p < scales.get(s).size(); p++) {
                if (!notesOf(scales.get(s).get(p)).contains(tune.get(k))) {
                    continue;
                }
                if (k == 0) {
                    rows.add(new Row(0, 0, 0, new int[] {s * 4 + p}));
                    continue;
                }
                Row best = null;
                for (Row row : ahead) {
                    Row longer = extended(row, s, p);
                    if (longer != null && (best == null || isBetter(longer, best))) {
                        best = longer;
                    }
                }
                if (best != null) {
                    rows.add(best);
                }
            }
        }
        return rows;
    }

    private Row extended(Row row, int s, int p) {
        int last = row.spots[row.spots.length - 1];
        List<Placed> was = scales.get(last / 4);
        int turned = was.indexOf(scales.get(s).get(p));
        if (s == last / 4) {
            turned = p;
        }
        if (turned < 0) {
            return null;
        }
        int parts = turned == last % 4 ? 0 : 1;
        int changes = s == last / 4 ? 0 : 1;
        int[] spots = Arrays.copyOf(row.spots, row.spots.length + 1);
        spots[row.spots.length] = s * 4 + p;
        return new Row(row.cost + parts + 10 * changes, row.scales + changes, row.parts + parts, spots);
    }

    private static boolean isBetter(Row a, Row b) {
        return a.cost != b.cost ? a.cost < b.cost : Arrays.compare(a.spots, b.spots) < 0;
    }

    private Row theParse() {
        if (!parseKnown) {
            parse = tune.isEmpty() ? new Row(0, 0, 0, new int[0]) : null;
            if (!tune.isEmpty()) {
                for (Row row : best(tune.size() - 1)) {
                    if (parse == null || isBetter(row, parse)) {
                        parse = row;
                    }
                }
            }
            parseKnown = true;
        }
        return parse;
    }

    /** THE PARSE by trying all, for short tunes; null: there is none. */
    int[] tryAll() {
        Row[] found = {null};
        tryFrom(new Row(0, 0, 0, new int[0]), found);
        return found[0] == null ? null : found[0].spots;
    }

    private void tryFrom(Row row, Row[] found) {
        int k = row.spots.length;
        if (k == tune.size()) {
            if (found[0] == null || row.cost < found[0].cost) {
                found[0] = row;
            }
            return;
        }
        for (int s = 0; s < scales.size(); s++) {
            for (int p = 0; p < scales.get(s).size(); p++) {
                if (notesOf(scales.get(s).get(p)).contains(tune.get(k))) {
                    Row next = k == 0 ? new Row(0, 0, 0, new int[] {s * 4 + p}) : extended(row, s, p);
                    if (next != null) {
                        tryFrom(next, found);
                    }
                }
            }
        }
    }

    int parse(int what) {
        if (what < 0 || what > 2) {
            return BAD;
        }
        Row row = theParse();
        return row == null ? NONE : what == 0 ? row.cost : what == 1 ? row.scales : row.parts;
    }

    int parsed(int k, int what) {
        if (k < 0 || k >= tune.size() || what < 0 || what > 1) {
            return BAD;
        }
        Row row = theParse();
        return row == null ? NONE : what == 0 ? row.spots[k] / 4 : row.spots[k] % 4;
    }

    int reach() {
        int far = 0;
        while (far < tune.size() && !best(far).isEmpty()) {
            far++;
        }
        return far;
    }

    int fit(int s) {
        if (!isScale(s)) {
            return BAD;
        }
        int fits = 0;
        for (int note : tune) {
            fits += isNoteOf(s, note) ? 1 : 0;
        }
        return fits;
    }

    private boolean isNoteOf(int s, int note) {
        for (Placed p : scales.get(s)) {
            if (notesOf(p).contains(note)) {
                return true;
            }
        }
        return false;
    }

    int home() {
        int best = NONE;
        for (int s = scales.size() - 1; s >= 0; s--) {
            if (best == NONE || fit(s) >= fit(best)) {
                best = s;
            }
        }
        return best;
    }

    // ---- which mode

    int sees(int note, int is) {
        if (note < 0 || note > 120 || is != 0 && is != 1) {
            return BAD;
        }
        if (seen.size() == 8) {
            return FULL;
        }
        seen.add(new int[] {note, is});
        return seen.size();
    }

    int forget() {
        int had = seen.size();
        seen.clear();
        return had;
    }

    int unseen() {
        int bits = 0;
        for (int s = 0; s < scales.size(); s++) {
            boolean so = true;
            for (int[] one : seen) {
                so &= isNoteOf(s, one[0]) == (one[1] == 1);
            }
            bits |= so ? 1 << s / 24 : 0;
        }
        return bits;
    }

    // ---- images

    int keep(int image) {
        if (image != 0 && image != 1) {
            return BAD;
        }
        images.set(image, tune);
        return tune.size();
    }

    int back(int image) {
        if (image != 0 && image != 1) {
            return BAD;
        }
        if (images.get(image) == null) {
            return STATE;
        }
        setTune(images.get(image));
        past.clear();
        return tune.size();
    }

    int count(int what) {
        int[] all = {cells.size(), modes.size(), tune.size(), seen.size(), text.length(), past.size()};
        return what < 0 || what > 5 ? BAD : all[what];
    }
}
