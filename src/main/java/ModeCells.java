import java.util.Arrays;

/** Cells, modes of joined cells, and tunes that are parsed to them. */
public final class ModeCells {
    public static final int BAD = -1, STATE = -2, FULL = -3, NONE = -9;

    private static final int TEXT_LIMIT = 130;
    private static final int HIGHEST_LETTER = 255;
    private static final int CELL_LIMIT = 6;
    private static final int STEP_LIMIT = 4;
    private static final int HIGHEST_STEP = 4;
    private static final int MODE_LIMIT = 6;
    private static final int PART_LIMIT = 4;
    private static final int HIGHEST_GAP = 3;
    private static final int ROOTS = 24;
    private static final int SCALE_LIMIT = MODE_LIMIT * ROOTS;
    private static final int SPOT_LIMIT = SCALE_LIMIT * PART_LIMIT;
    /** The highest ROOT, and three CELLS and GAPS below the last PART, all as high as can be. */
    private static final int HIGHEST_PITCH =
            ROOTS - 1 + (PART_LIMIT - 1) * (STEP_LIMIT * HIGHEST_STEP + HIGHEST_GAP);
    private static final int PITCHES = HIGHEST_PITCH + 1;
    private static final int PLACED_CELLS = CELL_LIMIT * PITCHES;
    private static final int NOTE_LIMIT = 16;
    private static final int HIGHEST_NOTE = 60;
    private static final int FARTHEST_MOVE = 20;
    private static final int UNDO_LIMIT = 10;
    private static final int IMAGES = 2;
    private static final int SEEN_LIMIT = 8;
    private static final int HIGHEST_SEEN = 120;
    private static final int PART_COST = 1;
    private static final int SCALE_COST = 10;
    /** Above every COST that a PARSE may have, and far from where sums would wrap. */
    private static final int NO_COST = 1000000;
    private static final int NOTHING = -1;

    private final Text text;
    private final Reader reader;
    private final Book book;
    private final Book draft;
    private final Tune tune;
    private final Past past;
    private final Shelf images;
    private final Seen seen;
    private final Ways ways;
    private final Parser parser;

    public ModeCells() {
        text = new Text();
        draft = new Book();
        reader = new Reader(text, draft);
        book = new Book();
        tune = new Tune();
        past = new Past();
        images = new Shelf(IMAGES);
        seen = new Seen();
        ways = new Ways(book);
        parser = new Parser(book, tune);
    }

    // ---- what is told

    public int type(int letter) {
        if (!within(letter, 0, HIGHEST_LETTER)) {
            return BAD;
        }
        if (text.length >= TEXT_LIMIT) {
            return FULL;
        }
        text.add(letter);
        return text.length;
    }

    public int clear() {
        int had = text.length;
        text.length = 0;
        return had;
    }

    public int modes() {
        int items = reader.read();
        if (items < 0) {
            return items;
        }
        text.length = 0;
        book.copyFrom(draft);
        ways.dropMeasures();
        tune.dropNotes();
        past.dropAll();
        images.dropAll();
        seen.size = 0;
        return items;
    }

    public int cell(int c, int k) {
        if (!within(c, 0, book.cellCount - 1) || k < -1) {
            return BAD;
        }
        if (k == -1) {
            return book.stepCounts[c];
        }
        return k < book.stepCounts[c] ? book.stepAt(c, k) : NONE;
    }

    public int part(int scale, int k, int what) {
        if (!book.isScale(scale) || k < -1 || !within(what, 0, 1)) {
            return BAD;
        }
        int parts = book.partsOf(scale);
        if (k == -1) {
            return parts;
        }
        if (k >= parts) {
            return NONE;
        }
        return what == 0 ? book.cellAt(scale, k) : book.pitchAt(scale, k);
    }

    // ---- what is done

    public int plays(int note) {
        if (!within(note, 0, HIGHEST_NOTE)) {
            return BAD;
        }
        if (tune.size >= NOTE_LIMIT) {
            return FULL;
        }
        past.remember(tune);
        tune.append(note);
        return tune.size;
    }

    public int cuts() {
        if (tune.size <= 0) {
            return STATE;
        }
        past.remember(tune);
        return tune.removeLast();
    }

    public int mends(int k, int note) {
        if (!tune.isPlace(k) || !within(note, 0, HIGHEST_NOTE)) {
            return BAD;
        }
        if (tune.notes[k] == note) {
            return STATE;
        }
        past.remember(tune);
        return tune.replace(k, note);
    }

    public int moves(int by) {
        if (!within(by, -FARTHEST_MOVE, FARTHEST_MOVE) || !tune.canShift(by)) {
            return BAD;
        }
        if (tune.size == 0 || by == 0) {
            return STATE;
        }
        past.remember(tune);
        tune.shift(by);
        return tune.size;
    }

    public int undo() {
        if (past.known <= 0) {
            return STATE;
        }
        past.restore(tune);
        return past.known;
    }

    public int note(int k) {
        return tune.isPlace(k) ? tune.notes[k] : BAD;
    }

    // ---- scales

    public int has(int scale, int note) {
        if (!book.isScale(scale) || !within(note, 0, HIGHEST_NOTE)) {
            return BAD;
        }
        return book.partsWith(scale, note);
    }

    public int shares(int scale, int other, int k) {
        if (!book.isScale(scale) || !book.isScale(other) || k < -1) {
            return BAD;
        }
        int shared = 0;
        for (int p = 0; p < book.partsOf(scale); p++) {
            if (book.samePart(scale, p, other) != NOTHING) {
                if (shared == k) {
                    return p;
                }
                shared++;
            }
        }
        return k == -1 ? shared : NONE;
    }

    public int way(int from, int to, int k) {
        if (!book.isScale(from) || !book.isScale(to) || k < -1) {
            return BAD;
        }
        // Measured from the end, so that each scale tells how far the end is.
        ways.measureFrom(to);
        int length = ways.lengths[from];
        if (length == 0) {
            return NONE;
        }
        if (k == -1) {
            return length;
        }
        return k < length ? ways.walk(from, k) : NONE;
    }

    public int farthest(int scale, int what) {
        if (!book.isScale(scale) || !within(what, 0, 1)) {
            return BAD;
        }
        ways.measureFrom(scale);
        int far = ways.mostDistant();
        return what == 0 ? ways.lengths[far] : far;
    }

    // ---- the tune

    public int parse(int what) {
        if (!within(what, 0, 2)) {
            return BAD;
        }
        parser.refresh();
        if (!parser.found) {
            return NONE;
        }
        if (what == 0) {
            return parser.scaleChanges * SCALE_COST + parser.partChanges * PART_COST;
        }
        return what == 1 ? parser.scaleChanges : parser.partChanges;
    }

    public int parsed(int k, int what) {
        if (!tune.isPlace(k) || !within(what, 0, 1)) {
            return BAD;
        }
        parser.refresh();
        if (!parser.found) {
            return NONE;
        }
        int spot = parser.chosen[k];
        return what == 0 ? scaleOfSpot(spot) : partOfSpot(spot);
    }

    public int reach() {
        parser.refresh();
        return parser.reached;
    }

    public int fit(int scale) {
        return book.isScale(scale) ? fitOf(scale) : BAD;
    }

    public int home() {
        int best = NONE;
        int most = -1;
        for (int scale = 0; scale < book.scaleCount(); scale++) {
            int fits = fitOf(scale);
            if (fits > most) {
                most = fits;
                best = scale;
            }
        }
        return best;
    }

    // ---- which mode

    public int sees(int note, int is) {
        if (!within(note, 0, HIGHEST_SEEN) || !within(is, 0, 1)) {
            return BAD;
        }
        if (seen.size >= SEEN_LIMIT) {
            return FULL;
        }
        seen.add(note, is);
        return seen.size;
    }

    public int forget() {
        int had = seen.size;
        seen.size = 0;
        return had;
    }

    public int unseen() {
        int bits = 0;
        for (int scale = 0; scale < book.scaleCount(); scale++) {
            if (seen.agreesWith(book, scale)) {
                bits |= 1 << (scale / ROOTS);
            }
        }
        return bits;
    }

    // ---- images

    public int keep(int image) {
        if (!within(image, 0, IMAGES - 1)) {
            return BAD;
        }
        images.put(image, tune);
        return tune.size;
    }

    public int back(int image) {
        if (!within(image, 0, IMAGES - 1)) {
            return BAD;
        }
        if (!images.isKept(image)) {
            return STATE;
        }
        images.giveTo(tune, image);
        past.dropAll();
        return tune.size;
    }

    public int count(int what) {
        switch (what) {
            case 0:
                return book.cellCount;
            case 1:
                return book.modeCount;
            case 2:
                return tune.size;
            case 3:
                return seen.size;
            case 4:
                return text.length;
            case 5:
                return past.known;
            default:
                return BAD;
        }
    }

    private int fitOf(int scale) {
        int fits = 0;
        for (int k = 0; k < tune.size; k++) {
            if (book.partsWith(scale, tune.notes[k]) > 0) {
                fits++;
            }
        }
        return fits;
    }

    private static boolean within(int number, int low, int high) {
        return number >= low && number <= high;
    }

    /** A spot is a PART of a SCALE, as one number; spots stand in the order of SCALES, then of PARTS. */
    private static int spotOf(int scale, int part) {
        return scale * PART_LIMIT + part;
    }

    private static int scaleOfSpot(int spot) {
        return spot / PART_LIMIT;
    }

    private static int partOfSpot(int spot) {
        return spot % PART_LIMIT;
    }

    /** THE TEXT. */
    private static final class Text {
        private final int[] letters = new int[TEXT_LIMIT];
        private int length = 0;

        private void add(int letter) {
            letters[length] = letter;
            length++;
        }

        private int letterAt(int place) {
            return place >= 0 && place < length ? letters[place] : NOTHING;
        }
    }

    /** Reads THE TEXT into a draft, so that a FAULT leaves what was told before. */
    private static final class Reader {
        private static final int FAULT_BASE = -10;

        private final Text text;
        private final Book draft;
        private int place = 0;
        private int fault = NOTHING;

        private Reader(Text text, Book draft) {
            this.text = text;
            this.draft = draft;
        }

        /** How many ITEMS, or FAULT as modes() answers it. */
        private int read() {
            draft.dropAll();
            place = 0;
            fault = NOTHING;
            int items = 0;
            skipBlanks();
            for (int i = 0; i < TEXT_LIMIT && place < text.length && fault == NOTHING; i++) {
                readItem();
                skipBlanks();
                items++;
            }
            return fault == NOTHING ? items : FAULT_BASE - fault;
        }

        private void readItem() {
            int letter = text.letterAt(place);
            if (letter == 'c' && draft.cellCount < CELL_LIMIT) {
                place++;
                readCell();
            } else if (letter == 'm' && draft.modeCount < MODE_LIMIT) {
                place++;
                readMode();
            } else {
                fault = place;
            }
        }

        private void readCell() {
            draft.openCell();
            for (int k = 0; k < STEP_LIMIT; k++) {
                if (k > 0 && atEnd()) {
                    break;
                }
                int step = readNumber(1, HIGHEST_STEP);
                if (step == NOTHING) {
                    return;
                }
                draft.addStep(step);
            }
            readEnd();
        }

        private void readMode() {
            int cell = readNumber(0, draft.cellCount - 1);
            if (cell == NOTHING) {
                return;
            }
            draft.openMode(cell);
            for (int k = 1; k < PART_LIMIT && !atEnd(); k++) {
                int gap = readNumber(0, HIGHEST_GAP);
                if (gap == NOTHING) {
                    return;
                }
                cell = readNumber(0, draft.cellCount - 1);
                if (cell == NOTHING) {
                    return;
                }
                draft.addPart(gap, cell);
            }
            readEnd();
        }

        private void readEnd() {
            if (atEnd()) {
                place++;
            } else {
                fault = place;
            }
        }

        private boolean atEnd() {
            skipBlanks();
            return text.letterAt(place) == ';';
        }

        /** A NUMBER of two figures or more is above 9 or begins with 0: it can stand nowhere. */
        private int readNumber(int low, int high) {
            skipBlanks();
            int letter = text.letterAt(place);
            if (!isFigure(letter) || isFigure(text.letterAt(place + 1))
                    || !within(letter - '0', low, high)) {
                fault = place;
                return NOTHING;
            }
            place++;
            return letter - '0';
        }

        private static boolean isFigure(int letter) {
            return letter >= '0' && letter <= '9';
        }

        private void skipBlanks() {
            while (place < text.length && text.letterAt(place) == ' ') {
                place++;
            }
        }
    }

    /** CELLS and MODES as they were told, and what follows of SCALES. */
    private static final class Book {
        private int cellCount = 0;
        private final int[] stepCounts = new int[CELL_LIMIT];
        private final int[] steps = new int[CELL_LIMIT * STEP_LIMIT];
        /** From a CELL's PITCH to its last note. */
        private final int[] heights = new int[CELL_LIMIT];
        /** Bit d: the note d above a CELL's PITCH is one of its notes. */
        private final int[] noteBits = new int[CELL_LIMIT];
        private int modeCount = 0;
        private final int[] partCounts = new int[MODE_LIMIT];
        private final int[] partCells = new int[MODE_LIMIT * PART_LIMIT];
        /** From the ROOT to a PART's PITCH. */
        private final int[] partHeights = new int[MODE_LIMIT * PART_LIMIT];

        private void dropAll() {
            cellCount = 0;
            modeCount = 0;
        }

        private void copyFrom(Book other) {
            cellCount = other.cellCount;
            copyRow(other.stepCounts, stepCounts);
            copyRow(other.steps, steps);
            copyRow(other.heights, heights);
            copyRow(other.noteBits, noteBits);
            modeCount = other.modeCount;
            copyRow(other.partCounts, partCounts);
            copyRow(other.partCells, partCells);
            copyRow(other.partHeights, partHeights);
        }

        private static void copyRow(int[] from, int[] to) {
            System.arraycopy(from, 0, to, 0, Math.min(from.length, to.length));
        }

        private void openCell() {
            stepCounts[cellCount] = 0;
            heights[cellCount] = 0;
            noteBits[cellCount] = 1;
            cellCount++;
        }

        private void addStep(int step) {
            int c = cellCount - 1;
            steps[c * STEP_LIMIT + stepCounts[c]] = step;
            stepCounts[c]++;
            heights[c] += step;
            noteBits[c] |= 1 << heights[c];
        }

        private void openMode(int cell) {
            partCells[modeCount * PART_LIMIT] = cell;
            partHeights[modeCount * PART_LIMIT] = 0;
            partCounts[modeCount] = 1;
            modeCount++;
        }

        private void addPart(int gap, int cell) {
            int m = modeCount - 1;
            int next = m * PART_LIMIT + partCounts[m];
            partCells[next] = cell;
            partHeights[next] = partHeights[next - 1] + heights[partCells[next - 1]] + gap;
            partCounts[m]++;
        }

        private int stepAt(int c, int k) {
            return steps[c * STEP_LIMIT + k];
        }

        private int scaleCount() {
            return modeCount * ROOTS;
        }

        private boolean isScale(int scale) {
            return scale >= 0 && scale < scaleCount();
        }

        private int partsOf(int scale) {
            return partCounts[scale / ROOTS];
        }

        private int cellAt(int scale, int k) {
            return partCells[scale / ROOTS * PART_LIMIT + k];
        }

        private int pitchAt(int scale, int k) {
            return scale % ROOTS + partHeights[scale / ROOTS * PART_LIMIT + k];
        }

        /** One number for a PART's CELL and PITCH: the same in all SCALES that SHARE it. */
        private int placedCell(int scale, int k) {
            return cellAt(scale, k) * PITCHES + pitchAt(scale, k);
        }

        private boolean isIn(int scale, int k, int note) {
            int above = note - pitchAt(scale, k);
            int c = cellAt(scale, k);
            return above >= 0 && above <= heights[c] && (noteBits[c] >> above & 1) == 1;
        }

        private int partsWith(int scale, int note) {
            int parts = 0;
            for (int k = 0; k < partsOf(scale); k++) {
                if (isIn(scale, k, note)) {
                    parts++;
                }
            }
            return parts;
        }

        /** Which PART of the other SCALE is the k-th one of the first, or NOTHING. */
        private int samePart(int scale, int k, int other) {
            int placed = placedCell(scale, k);
            for (int p = 0; p < partsOf(other); p++) {
                if (placedCell(other, p) == placed) {
                    return p;
                }
            }
            return NOTHING;
        }
    }

    /** THE TUNE. */
    private static final class Tune {
        private final int[] notes = new int[NOTE_LIMIT];
        private int size = 0;
        /** Grows with every change, so that a parse knows whether it is still of this tune. */
        private int changes = 0;

        private boolean isPlace(int k) {
            return k >= 0 && k < size;
        }

        private void dropNotes() {
            size = 0;
            changes++;
        }

        private void append(int note) {
            notes[size] = note;
            size++;
            changes++;
        }

        private int removeLast() {
            size--;
            changes++;
            return notes[size];
        }

        private int replace(int k, int note) {
            int was = notes[k];
            notes[k] = note;
            changes++;
            return was;
        }

        private boolean canShift(int by) {
            for (int k = 0; k < size; k++) {
                if (!within(notes[k] + by, 0, HIGHEST_NOTE)) {
                    return false;
                }
            }
            return true;
        }

        private void shift(int by) {
            for (int k = 0; k < size; k++) {
                notes[k] += by;
            }
            changes++;
        }
    }

    /** Places that each may keep a tune. */
    private static final class Shelf {
        private final int[] sizes;
        private final int[] notes;

        private Shelf(int places) {
            sizes = new int[places];
            notes = new int[places * NOTE_LIMIT];
            Arrays.fill(sizes, NOTHING);
        }

        private void dropAll() {
            Arrays.fill(sizes, NOTHING);
        }

        private boolean isKept(int place) {
            return sizes[place] != NOTHING;
        }

        private void put(int place, Tune tune) {
            sizes[place] = tune.size;
            System.arraycopy(tune.notes, 0, notes, place * NOTE_LIMIT, tune.size);
        }

        private void giveTo(Tune tune, int place) {
            tune.size = sizes[place];
            System.arraycopy(notes, place * NOTE_LIMIT, tune.notes, 0, tune.size);
            tune.changes++;
        }
    }

    /** The tunes ahead of the latest deeds; the shelf is a ring, so that the oldest gives way. */
    private static final class Past {
        private final Shelf shelf = new Shelf(UNDO_LIMIT);
        private int oldest = 0;
        private int known = 0;

        private void dropAll() {
            oldest = 0;
            known = 0;
        }

        private void remember(Tune tune) {
            if (known < UNDO_LIMIT) {
                known++;
            } else {
                oldest = (oldest + 1) % UNDO_LIMIT;
            }
            shelf.put((oldest + known - 1) % UNDO_LIMIT, tune);
        }

        private void restore(Tune tune) {
            known--;
            shelf.giveTo(tune, (oldest + known) % UNDO_LIMIT);
        }
    }

    /** What was SEEN. */
    private static final class Seen {
        private final int[] notes = new int[SEEN_LIMIT];
        private final int[] answers = new int[SEEN_LIMIT];
        private int size = 0;

        private void add(int note, int is) {
            notes[size] = note;
            answers[size] = is;
            size++;
        }

        private boolean agreesWith(Book book, int scale) {
            for (int i = 0; i < size; i++) {
                int is = book.partsWith(scale, notes[i]) > 0 ? 1 : 0;
                if (is != answers[i]) {
                    return false;
                }
            }
            return true;
        }
    }

    /** How many SCALES the shortest WAYS from one SCALE have. */
    private static final class Ways {
        private final Book book;
        private final int[] lengths = new int[SCALE_LIMIT];
        private final int[] queue = new int[SCALE_LIMIT];
        private int queued = 0;
        private int source = NOTHING;

        private Ways(Book book) {
            this.book = book;
        }

        private void dropMeasures() {
            source = NOTHING;
        }

        /** Lengths count SCALES, the first one too; 0: there is no WAY. */
        private void measureFrom(int scale) {
            if (source == scale) {
                return;
            }
            source = scale;
            Arrays.fill(lengths, 0);
            queued = 0;
            enqueue(scale, 1);
            for (int head = 0; head < queued && head < SCALE_LIMIT; head++) {
                for (int k = 0; k < book.partsOf(queue[head]); k++) {
                    enqueueSharers(queue[head], k);
                }
            }
        }

        private void enqueueSharers(int scale, int k) {
            int cell = book.cellAt(scale, k);
            int pitch = book.pitchAt(scale, k);
            for (int m = 0; m < book.modeCount; m++) {
                for (int p = 0; p < book.partCounts[m]; p++) {
                    int root = pitch - book.partHeights[m * PART_LIMIT + p];
                    if (book.partCells[m * PART_LIMIT + p] == cell && within(root, 0, ROOTS - 1)) {
                        enqueue(m * ROOTS + root, lengths[scale] + 1);
                    }
                }
            }
        }

        private void enqueue(int scale, int length) {
            if (lengths[scale] == 0 && queued < SCALE_LIMIT) {
                lengths[scale] = length;
                queue[queued] = scale;
                queued++;
            }
        }

        /** Where one is so many SCALES behind the first one of THE WAY to the source. */
        private int walk(int from, int steps) {
            int at = from;
            for (int i = 0; i < steps; i++) {
                at = lowestNearer(at);
            }
            return at;
        }

        private int lowestNearer(int scale) {
            for (int other = 0; other < book.scaleCount(); other++) {
                if (lengths[other] == lengths[scale] - 1 && lengths[other] > 0
                        && sharesSome(scale, other)) {
                    return other;
                }
            }
            return scale;
        }

        private boolean sharesSome(int scale, int other) {
            for (int k = 0; k < book.partsOf(scale); k++) {
                if (book.samePart(scale, k, other) != NOTHING) {
                    return true;
                }
            }
            return false;
        }

        private int mostDistant() {
            int far = 0;
            for (int scale = 1; scale < book.scaleCount(); scale++) {
                if (lengths[scale] > lengths[far]) {
                    far = scale;
                }
            }
            return far;
        }
    }

    /** THE PARSE of THE TUNE, kept until the tune changes. */
    private static final class Parser {
        private final Book book;
        private final Tune tune;
        /** For each NOTE and spot: the least COST from there to the last NOTE. */
        private final int[] rests = new int[NOTE_LIMIT * SPOT_LIMIT];
        /** For each CELL at a PITCH: the least of the next NOTE's rests in spots that are it. */
        private final int[] entries = new int[PLACED_CELLS];
        private final Prefix prefix;
        private final int[] chosen = new int[NOTE_LIMIT];
        private boolean found = false;
        private int scaleChanges = 0;
        private int partChanges = 0;
        private int reached = 0;
        private int parsedChanges = NOTHING;

        private Parser(Book book, Tune tune) {
            this.book = book;
            this.tune = tune;
            prefix = new Prefix(book, tune);
        }

        /** New MODES need no look here: they always come with a change of the tune. */
        private void refresh() {
            if (parsedChanges == tune.changes) {
                return;
            }
            parsedChanges = tune.changes;
            for (int k = tune.size - 1; k >= 0; k--) {
                measureEntries(k + 1);
                measureRests(k);
            }
            choose();
            reached = found ? tune.size : prefix.longest();
        }

        private int restAt(int k, int spot) {
            return rests[k * SPOT_LIMIT + spot];
        }

        private void measureEntries(int k) {
            if (k >= tune.size) {
                return;
            }
            Arrays.fill(entries, NO_COST);
            for (int scale = 0; scale < book.scaleCount(); scale++) {
                for (int p = 0; p < book.partsOf(scale); p++) {
                    int placed = book.placedCell(scale, p);
                    entries[placed] = Math.min(entries[placed], restAt(k, spotOf(scale, p)));
                }
            }
        }

        private void measureRests(int k) {
            int note = tune.notes[k];
            for (int scale = 0; scale < book.scaleCount(); scale++) {
                for (int p = 0; p < PART_LIMIT; p++) {
                    boolean stands = p < book.partsOf(scale) && book.isIn(scale, p, note);
                    rests[k * SPOT_LIMIT + spotOf(scale, p)] = stands ? leastRest(k, scale, p) : NO_COST;
                }
            }
        }

        /** An entry may be of the same SCALE, too: then staying in it is cheaper. */
        private int leastRest(int k, int scale, int part) {
            if (k + 1 >= tune.size) {
                return 0;
            }
            int least = NO_COST;
            for (int p = 0; p < book.partsOf(scale); p++) {
                int stay = restAt(k + 1, spotOf(scale, p));
                int leave = entries[book.placedCell(scale, p)] + SCALE_COST;
                int turn = p == part ? 0 : PART_COST;
                least = Math.min(least, Math.min(stay, leave) + turn);
            }
            return least;
        }

        private void choose() {
            scaleChanges = 0;
            partChanges = 0;
            found = tune.size == 0;
            if (found) {
                return;
            }
            int first = firstSpot();
            found = first != NOTHING;
            if (!found) {
                return;
            }
            chosen[0] = first;
            for (int k = 1; k < tune.size; k++) {
                chosen[k] = nextSpot(k, chosen[k - 1]);
                countChange(changeCost(chosen[k - 1], chosen[k]));
            }
        }

        private int firstSpot() {
            int best = NOTHING;
            int least = NO_COST;
            for (int spot = 0; spot < spotOf(book.scaleCount(), 0); spot++) {
                if (restAt(0, spot) < least) {
                    least = restAt(0, spot);
                    best = spot;
                }
            }
            return best;
        }

        private int nextSpot(int k, int from) {
            int due = restAt(k - 1, from);
            for (int spot = 0; spot < spotOf(book.scaleCount(), 0); spot++) {
                int rest = restAt(k, spot);
                if (rest <= due && rest + changeCost(from, spot) == due) {
                    return spot;
                }
            }
            return from;
        }

        private int changeCost(int from, int to) {
            int scale = scaleOfSpot(from);
            int other = scaleOfSpot(to);
            if (scale == other) {
                return from == to ? 0 : PART_COST;
            }
            int shared = book.samePart(other, partOfSpot(to), scale);
            if (shared == NOTHING) {
                return NO_COST;
            }
            return shared == partOfSpot(from) ? SCALE_COST : SCALE_COST + PART_COST;
        }

        private void countChange(int cost) {
            scaleChanges += cost / SCALE_COST;
            partChanges += cost % SCALE_COST;
        }
    }

    /** How far a tune that has no PARSE has one. */
    private static final class Prefix {
        private final Book book;
        private final Tune tune;
        private final boolean[] live = new boolean[SCALE_LIMIT];
        /** For each CELL at a PITCH: the latest NOTE at which one may be in it. */
        private final int[] marks = new int[PLACED_CELLS];

        private Prefix(Book book, Tune tune) {
            this.book = book;
            this.tune = tune;
        }

        private int longest() {
            Arrays.fill(marks, 0);
            for (int k = 0; k < tune.size; k++) {
                if (!findLive(k)) {
                    return k;
                }
                markFromLive(k + 1);
            }
            return tune.size;
        }

        private boolean findLive(int k) {
            boolean some = false;
            for (int scale = 0; scale < book.scaleCount(); scale++) {
                live[scale] = false;
                for (int p = 0; p < book.partsOf(scale); p++) {
                    if (marks[book.placedCell(scale, p)] == k && book.isIn(scale, p, tune.notes[k])) {
                        live[scale] = true;
                        some = true;
                    }
                }
            }
            return some;
        }

        /** From a SCALE each of its PARTS can be taken, and from there each SCALE that SHARES it. */
        private void markFromLive(int k) {
            for (int scale = 0; scale < book.scaleCount(); scale++) {
                for (int p = 0; live[scale] && p < book.partsOf(scale); p++) {
                    marks[book.placedCell(scale, p)] = k;
                }
            }
        }
    }
}
