/** A pad of sheets, and what the sheets below still show of notes written above them. */
public final class PressedPad {
    public static final int NONE = -1, BAD = -2, NO = -3, FULL = -4;

    private static final int MOST_SHEETS = 6;
    private static final int FIRST_SHEETS = 4;
    private static final int CELLS = 12;
    private static final int CELL_SETS = 1 << CELLS;
    private static final int KINDS = 6;
    private static final int MOST_PRESS = 9;
    private static final int MOST_DENT = 9;
    private static final int MOST_NOTES = 10;
    private static final int MOST_WORDS = 8;
    private static final int MOST_UNDONE = 8;
    private static final int MOST_BYTES = 150;
    private static final int IMAGES = 2;
    private static final int COPY_FORCE = 2;
    private static final int ALL_ROWS = 720;
    private static final int ODDS = 10;
    private static final int MOST_SEED = 999999;
    private static final int MOST_DRAWN = 20;

    /** BAD and NONE would look alike to what some calls answer, so these say BAD so. */
    private static final int BAD_TEN = -10;
    private static final int TOO_FEW_SHEETS = -5;

    private final PenBox box = new PenBox();
    private final Pad now = new Pad();
    private final Pad draft = new Pad();
    private final Pad firstImage = new Pad();
    private final Pad secondImage = new Pad();
    private final Lost trace = new Lost();
    private final Rows rows = new Rows();
    private final Reader reader = new Reader();
    private final int[] lastDents = new int[CELLS];
    private int keptImages = 0;
    private long above = 0;
    private long below = 1;
    private int badCalls = 0;
    private int noCalls = 0;
    private int fullCalls = 0;

    public PressedPad() {
    }

    // ---- a pad

    public int pad(int n) {
        if (n < 1 || n > MOST_SHEETS) {
            return bad(BAD);
        }
        int before = now.sheets;
        now.beginAnew(n);
        return before;
    }

    public int carbons(int sheets) {
        if (!now.hasSheets(sheets)) {
            return bad(BAD);
        }
        int before = now.carbonBits;
        now.carbonBits = sheets;
        return before;
    }

    public int write(int kind, int press, int cells) {
        if (!isPen(kind, press) || !isCells(cells)) {
            return bad(BAD);
        }
        if (now.isUsedUp()) {
            return no();
        }
        if (now.noteCount() >= MOST_NOTES) {
            return full();
        }
        now.keepForUndo();
        return now.putNote(box, kind, press, cells);
    }

    public int tear() {
        if (now.isUsedUp()) {
            return no();
        }
        now.keepForUndo();
        return now.tearTop();
    }

    public int undo() {
        if (now.undoable <= 0) {
            return no();
        }
        now.goBack();
        return now.noteCount();
    }

    public int word(int cells) {
        if (!isCells(cells)) {
            return bad(BAD);
        }
        if (now.wordCount >= MOST_WORDS) {
            return full();
        }
        now.words[now.wordCount] = cells;
        now.wordCount++;
        return now.wordCount - 1;
    }

    public int forget() {
        int before = now.wordCount;
        now.wordCount = 0;
        return before;
    }

    public int type(int c) {
        if (c < 0 || c > 127) {
            return bad(BAD);
        }
        if (reader.length >= MOST_BYTES) {
            return full();
        }
        reader.text[reader.length] = c;
        reader.length++;
        return reader.length;
    }

    public int clear() {
        int before = reader.length;
        reader.length = 0;
        return before;
    }

    public int read() {
        int items = reader.readInto(draft, box);
        if (items < 0) {
            return -10 - reader.fault();
        }
        now.copyFrom(draft);
        return items;
    }

    // ---- what there is to see

    public int of(int sheet, int what) {
        if (!now.hasSheet(sheet)) {
            return bad(BAD_TEN);
        }
        switch (what) {
            case 0:
                return now.inkOf(sheet);
            case 1:
                return now.copyOf(sheet);
            case 2:
                return sheet < now.top() ? NONE : sheet - now.top();
            case 3:
                return now.writtenOn(sheet);
            default:
                return bad(BAD_TEN);
        }
    }

    public int dent(int sheet, int cell) {
        if (!now.hasSheet(sheet) || cell < 0 || cell >= CELLS) {
            return bad(BAD);
        }
        return now.dentOf(sheet, cell);
    }

    public int about(int note, int what) {
        if (!now.hasNote(note)) {
            return bad(BAD);
        }
        switch (what) {
            case 0:
                return now.noteKind[note];
            case 1:
                return now.notePress[note];
            case 2:
                return now.noteCells[note];
            case 3:
                return now.noteSheet[note];
            case 4:
                return now.forceOn(note, now.noteSheet[note]);
            case 5:
                return box.hasInk(now.noteKind[note]) ? 1 : 0;
            default:
                return bad(BAD);
        }
    }

    public int force(int kind, int press, int depth) {
        if (!isPen(kind, press) || !isDepth(depth)) {
            return bad(BAD);
        }
        return box.forceOf(kind, press, depth);
    }

    public int whose(int sheet) {
        return now.hasSheet(sheet) ? now.dentedBy(sheet) : bad(BAD);
    }

    public int own(int note, int sheet) {
        if (!now.hasNote(note) || !now.hasSheet(sheet)) {
            return bad(BAD);
        }
        int others = 0;
        for (int k = 0; k < now.noteCount(); k++) {
            if (k != note) {
                others |= now.cellsDented(k, sheet);
            }
        }
        return now.cellsDented(note, sheet) & ~others;
    }

    public int shown(int sheet, int q) {
        if (!now.hasSheet(sheet) || q < 1 || q > MOST_DENT) {
            return bad(BAD);
        }
        return now.dentedAtLeast(sheet, q);
    }

    // ---- what was lost (known: NOTES as bits)

    public int lost(int sheet, int known, int kind, int press, int depth, int what) {
        boolean told = now.hasSheet(sheet) && now.hasNotes(known) && isPen(kind, press);
        if (!told || !isDepth(depth) || what < 0 || what > 3) {
            return bad(BAD_TEN);
        }
        trace.look(now, sheet, known);
        boolean some = trace.guess(box.forceOf(kind, press, depth));
        if (!some) {
            return what < 2 ? NONE : 0;
        }
        switch (what) {
            case 0:
                return trace.must;
            case 1:
                return trace.may;
            case 2:
                return 1 << Integer.bitCount(trace.may & ~trace.must);
            default:
                return wordsThatFit();
        }
    }

    public int pen(int sheet, int known, int depth, int cells, int what) {
        boolean told = now.hasSheet(sheet) && now.hasNotes(known) && isDepth(depth);
        if (!told || !isCells(cells) || cells == 0 || what < 0 || what > 1) {
            return bad(BAD_TEN);
        }
        trace.look(now, sheet, known);
        int pairs = 0;
        int first = NONE;
        for (int kind = 0; kind < KINDS; kind++) {
            for (int press = 1; press <= MOST_PRESS; press++) {
                if (trace.guess(box.forceOf(kind, press, depth)) && trace.isFit(cells)) {
                    pairs++;
                    first = first == NONE ? 10 * kind + press : first;
                }
            }
        }
        return what == 0 ? pairs : first;
    }

    public int orders(int i) {
        if (i < NONE) {
            return bad(BAD_TEN);
        }
        if (i == NONE) {
            return rows.search(now, ALL_ROWS);
        }
        if (i >= now.sheets) {
            return TOO_FEW_SHEETS;
        }
        return rows.search(now, 1) == 0 ? NONE : rows.sheetAt(i);
    }

    // ---- copies, rubbings

    public int press(int kind, int depth) {
        if (kind < 0 || kind >= KINDS || depth < 1 || !isDepth(depth)) {
            return bad(BAD);
        }
        for (int press = 1; press <= MOST_PRESS; press++) {
            if (box.forceOf(kind, press, depth) >= COPY_FORCE) {
                return press;
            }
        }
        return NONE;
    }

    public int copies(int sheets, int kind, int press, int what) {
        int tornSheets = (1 << now.top()) - 1;
        boolean told = now.hasSheets(sheets) && (sheets & tornSheets) == 0 && isPen(kind, press);
        if (!told || what < 0 || what > 1) {
            return bad(BAD_TEN);
        }
        int needed = 0;
        for (int s = now.top(); s < now.sheets; s++) {
            if ((sheets >> s & 1) != 0) {
                int depth = s - now.top();
                if (depth == 0 || box.forceOf(kind, press, depth) < COPY_FORCE) {
                    return NONE;
                }
                needed |= 1 << s - 1;
            }
        }
        int more = needed & ~now.carbonBits;
        return what == 0 ? Integer.bitCount(more) : more;
    }

    public int rub(int sheet, int cells, int what) {
        if (!now.hasSheet(sheet) || !isCells(cells) || what < 0 || what > 1) {
            return bad(BAD);
        }
        long chance = 1;
        long outOf = 1;
        for (int c = 0; c < CELLS; c++) {
            int dent = now.dentOf(sheet, c);
            boolean seen = (cells >> c & 1) != 0;
            if (seen || what == 0) {
                chance *= seen ? dent : ODDS - dent;
                outOf *= ODDS;
            }
        }
        keepFraction(chance, outOf);
        return 1;
    }

    public int torn(int notes) {
        if (!now.hasNotes(notes)) {
            return bad(BAD);
        }
        for (int s = now.top(); s < now.sheets; s++) {
            if ((now.dentedBy(s) & notes) == 0) {
                return s - now.top();
            }
        }
        return NONE;
    }

    public int drawn(int seed, int n) {
        if (seed < 0 || seed > MOST_SEED || n < 0 || n > MOST_DRAWN) {
            return bad(BAD);
        }
        if (now.isUsedUp()) {
            return NONE;
        }
        int last = now.sheets - 1;
        int top = now.top();
        for (int c = 0; c < CELLS; c++) {
            lastDents[c] = now.dentOf(last, c);
        }
        long x = seed;
        for (int k = 1; k <= n; k++) {
            x = nextDraw(x);
            int kind = drawOf(x, KINDS);
            x = nextDraw(x);
            int press = 1 + drawOf(x, MOST_PRESS);
            x = nextDraw(x);
            dentInto(lastDents, 0, drawOf(x, CELL_SETS), box.forceOf(kind, press, last - top));
            if (k % 3 == 0 && top < last) {
                top++;
            }
        }
        return sumOfLast();
    }

    // ---- what there is

    public long part(int what) {
        if (what < 0 || what > 1) {
            return bad(BAD);
        }
        return what == 0 ? above : below;
    }

    public int image(int i) {
        if (i < 0 || i >= IMAGES) {
            return bad(BAD);
        }
        imageOf(i).copyFrom(now);
        keptImages |= 1 << i;
        return 1;
    }

    public int from(int i) {
        if (i < 0 || i >= IMAGES) {
            return bad(BAD);
        }
        if ((keptImages >> i & 1) == 0) {
            return no();
        }
        now.copyFrom(imageOf(i));
        return 1;
    }

    public int status(int what) {
        switch (what) {
            case 0:
                return badCalls;
            case 1:
                return noCalls;
            case 2:
                return fullCalls;
            default:
                return bad(NONE);
        }
    }

    public int count(int what) {
        return what < 0 || what > 6 ? bad(BAD) : amountOf(what);
    }

    public long digest() {
        long h = 919;
        for (int what = 0; what <= 6; what++) {
            h = 31 * h + amountOf(what);
        }
        h = now.digestFrom(h);
        h = 31 * h + above;
        return 31 * h + below;
    }

    // ---- what the calls share

    private static boolean isPen(int kind, int press) {
        return kind >= 0 && kind < KINDS && press >= 1 && press <= MOST_PRESS;
    }

    private static boolean isDepth(int depth) {
        return depth >= 0 && depth < MOST_SHEETS;
    }

    private static boolean isCells(int cells) {
        return cells >= 0 && cells < CELL_SETS;
    }

    private int bad(int answer) {
        badCalls++;
        return answer;
    }

    private int no() {
        noCalls++;
        return NO;
    }

    private int full() {
        fullCalls++;
        return FULL;
    }

    private int amountOf(int what) {
        switch (what) {
            case 0:
                return now.sheets;
            case 1:
                return now.top();
            case 2:
                return now.noteCount();
            case 3:
                return now.wordCount;
            case 4:
                return now.carbonBits;
            case 5:
                return now.undoable;
            default:
                return reader.length;
        }
    }

    private Pad imageOf(int i) {
        return i == 0 ? firstImage : secondImage;
    }

    private int wordsThatFit() {
        int fit = 0;
        for (int w = 0; w < now.wordCount; w++) {
            if (trace.isFit(now.words[w])) {
                fit |= 1 << w;
            }
        }
        return fit;
    }

    private void keepFraction(long top, long bottom) {
        long a = top;
        long b = bottom;
        // Euclid: what is left over is below half after two steps, so 128 are enough for a long.
        for (int step = 0; step < 128 && b != 0; step++) {
            long rest = a % b;
            a = b;
            b = rest;
        }
        if (a > 0) {
            above = top / a;
            below = bottom / a;
        }
    }

    private static long nextDraw(long x) {
        return (x * 1103515245L + 12345L) % 2147483648L;
    }

    private static int drawOf(long x, int choices) {
        return choices <= 0 ? 0 : (int) (x / 65536L % choices);
    }

    /** A dent never gets less: in these cells of a row, the first at a place, the greater one stays. */
    private static void dentInto(int[] row, int first, int cells, int force) {
        for (int c = 0; c < CELLS; c++) {
            int place = first + c;
            if ((cells >> c & 1) != 0 && place >= 0 && place < row.length && row[place] < force) {
                row[place] = force;
            }
        }
    }

    private int sumOfLast() {
        int sum = 0;
        for (int c = 0; c < CELLS; c++) {
            sum += lastDents[c];
        }
        return sum;
    }

    // ---- kinds of pens, each under the one that the document tells

    private static class Pencil {
        int forceAt(int press, int depth) {
            int force = press - depth;
            return force < 0 ? 0 : force > MOST_DENT ? MOST_DENT : force;
        }

        boolean leavesInk() {
            return true;
        }
    }

    private static class Ball extends Pencil {
        int forceAt(int press, int depth) {
            return super.forceAt(press + 1, depth);
        }
    }

    private static class Nib extends Pencil {
        int forceAt(int press, int depth) {
            return super.forceAt(press, depth) / 2;
        }
    }

    private static class Stylus extends Ball {
        boolean leavesInk() {
            return false;
        }
    }

    private static final class Felt extends Nib {
        int forceAt(int press, int depth) {
            return depth > 1 ? 0 : super.forceAt(press, depth);
        }
    }

    private static final class Tool extends Stylus {
        int forceAt(int press, int depth) {
            return super.forceAt(press, depth / 2);
        }
    }

    /** One pen of each kind, by the kind's number. */
    private static final class PenBox {
        private final Pencil[] pens = {
            new Pencil(), new Ball(), new Nib(), new Stylus(), new Felt(), new Tool()
        };

        private Pencil penOf(int kind) {
            return kind >= 0 && kind < pens.length ? pens[kind] : null;
        }

        int forceOf(int kind, int press, int depth) {
            Pencil one = penOf(kind);
            return one == null ? 0 : one.forceAt(press, depth);
        }

        boolean hasInk(int kind) {
            Pencil one = penOf(kind);
            return one != null && one.leavesInk();
        }
    }

    /**
     * All that an image keeps. What undo brings back lies in one row, the page, so that keeping it is one copy: how
     * many sheets are torn, how many notes there are, then each sheet's ink, copy and dents. Carbons and words stay
     * outside of it because undo leaves them. Sheets go from the top in their order, so the number of torn ones is
     * the number of the uppermost one too.
     */
    private static final class Pad {
        private static final int TORN = 0;
        private static final int NOTES = 1;
        private static final int SHEETS = 2;
        private static final int INK = 0;
        private static final int COPY = 1;
        private static final int DENTS = 2;
        private static final int SHEET_LENGTH = DENTS + CELLS;
        private static final int PAGE_LENGTH = SHEETS + MOST_SHEETS * SHEET_LENGTH;

        private final int[] page = new int[PAGE_LENGTH];
        private final int[] earlier = new int[MOST_UNDONE * PAGE_LENGTH];
        private int undoable = 0;
        private int sheets = FIRST_SHEETS;
        private int carbonBits = 0;
        private final int[] noteKind = new int[MOST_NOTES];
        private final int[] notePress = new int[MOST_NOTES];
        private final int[] noteCells = new int[MOST_NOTES];
        private final int[] noteSheet = new int[MOST_NOTES];
        private final int[] noteForces = new int[MOST_NOTES * MOST_SHEETS];
        private final int[] words = new int[MOST_WORDS];
        private int wordCount = 0;

        void beginAnew(int n) {
            sheets = n;
            carbonBits = 0;
            undoable = 0;
            wordCount = 0;
            for (int i = 0; i < page.length; i++) {
                page[i] = 0;
            }
        }

        void copyFrom(Pad other) {
            sheets = other.sheets;
            carbonBits = other.carbonBits;
            undoable = other.undoable;
            wordCount = other.wordCount;
            System.arraycopy(other.page, 0, page, 0, PAGE_LENGTH);
            System.arraycopy(other.earlier, 0, earlier, 0, undoable * PAGE_LENGTH);
            System.arraycopy(other.noteKind, 0, noteKind, 0, MOST_NOTES);
            System.arraycopy(other.notePress, 0, notePress, 0, MOST_NOTES);
            System.arraycopy(other.noteCells, 0, noteCells, 0, MOST_NOTES);
            System.arraycopy(other.noteSheet, 0, noteSheet, 0, MOST_NOTES);
            System.arraycopy(other.noteForces, 0, noteForces, 0, MOST_NOTES * MOST_SHEETS);
            System.arraycopy(other.words, 0, words, 0, MOST_WORDS);
        }

        void keepForUndo() {
            if (undoable >= MOST_UNDONE) {
                System.arraycopy(earlier, PAGE_LENGTH, earlier, 0, (MOST_UNDONE - 1) * PAGE_LENGTH);
                undoable = MOST_UNDONE - 1;
            }
            System.arraycopy(page, 0, earlier, undoable * PAGE_LENGTH, PAGE_LENGTH);
            undoable++;
        }

        void goBack() {
            if (undoable > 0) {
                undoable--;
                System.arraycopy(earlier, undoable * PAGE_LENGTH, page, 0, PAGE_LENGTH);
            }
        }

        int top() {
            return page[TORN];
        }

        int noteCount() {
            return page[NOTES];
        }

        boolean isUsedUp() {
            return page[TORN] >= sheets;
        }

        boolean hasSheet(int sheet) {
            return sheet >= 0 && sheet < sheets;
        }

        boolean hasSheets(int bits) {
            return bits >= 0 && bits < 1 << sheets;
        }

        boolean hasNote(int note) {
            return note >= 0 && note < page[NOTES];
        }

        boolean hasNotes(int bits) {
            return bits >= 0 && bits < 1 << page[NOTES];
        }

        private static int placeOf(int sheet, int part) {
            return SHEETS + sheet * SHEET_LENGTH + part;
        }

        int inkOf(int sheet) {
            return page[placeOf(sheet, INK)];
        }

        int copyOf(int sheet) {
            return page[placeOf(sheet, COPY)];
        }

        int dentOf(int sheet, int cell) {
            return page[placeOf(sheet, DENTS + cell)];
        }

        int tearTop() {
            page[TORN]++;
            return page[TORN] - 1;
        }

        int putNote(PenBox box, int kind, int press, int cells) {
            int note = page[NOTES];
            int top = page[TORN];
            if (note >= MOST_NOTES || top >= sheets) {
                return NONE;
            }
            noteKind[note] = kind;
            notePress[note] = press;
            noteCells[note] = cells;
            noteSheet[note] = top;
            for (int d = 0; d < MOST_SHEETS; d++) {
                noteForces[note * MOST_SHEETS + d] = box.forceOf(kind, press, d);
            }
            page[NOTES] = note + 1;
            if (box.hasInk(kind)) {
                page[placeOf(top, INK)] |= cells;
            }
            for (int s = top; s < sheets; s++) {
                pressInto(s, cells, forceOn(note, s));
            }
            return note;
        }

        private void pressInto(int sheet, int cells, int force) {
            dentInto(page, placeOf(sheet, DENTS), cells, force);
            // A torn sheet takes its carbon away, so the one above must still lie there.
            boolean carbonAbove = sheet > page[TORN] && (carbonBits >> sheet - 1 & 1) != 0;
            if (carbonAbove && force >= COPY_FORCE) {
                page[placeOf(sheet, COPY)] |= cells;
            }
        }

        int writtenOn(int sheet) {
            int bits = 0;
            for (int k = 0; k < page[NOTES]; k++) {
                if (noteSheet[k] == sheet) {
                    bits |= 1 << k;
                }
            }
            return bits;
        }

        /** Sheets above the one written on were torn by then, so a note never reached them. */
        int forceOn(int note, int sheet) {
            return forceDown(note, sheet - noteSheet[note]);
        }

        int forceDown(int note, int depth) {
            return depth < 0 || depth >= MOST_SHEETS ? 0 : noteForces[note * MOST_SHEETS + depth];
        }

        int cellsDented(int note, int sheet) {
            return forceOn(note, sheet) > 0 ? noteCells[note] : 0;
        }

        int dentedBy(int sheet) {
            int bits = 0;
            for (int k = 0; k < page[NOTES]; k++) {
                if (cellsDented(k, sheet) != 0) {
                    bits |= 1 << k;
                }
            }
            return bits;
        }

        int dentedAtLeast(int sheet, int q) {
            int bits = 0;
            for (int c = 0; c < CELLS; c++) {
                if (dentOf(sheet, c) >= q) {
                    bits |= 1 << c;
                }
            }
            return bits;
        }

        long digestFrom(long start) {
            long h = start;
            int end = placeOf(sheets, 0);
            for (int i = SHEETS; i < end && i < PAGE_LENGTH; i++) {
                h = 31 * h + page[i];
            }
            for (int k = 0; k < page[NOTES]; k++) {
                h = 31 * h + noteKind[k];
                h = 31 * h + notePress[k];
                h = 31 * h + noteCells[k];
                h = 31 * h + noteSheet[k];
            }
            for (int w = 0; w < wordCount; w++) {
                h = 31 * h + words[w];
            }
            return h;
        }
    }

    /** What the dents of a sheet, beside those that known notes make, say of one that is lost. */
    private static final class Lost {
        private final int[] seen = new int[CELLS];
        private final int[] explained = new int[CELLS];
        private int must = 0;
        private int may = 0;

        void look(Pad pad, int sheet, int known) {
            for (int c = 0; c < CELLS; c++) {
                seen[c] = pad.dentOf(sheet, c);
                explained[c] = 0;
            }
            for (int k = 0; k < pad.noteCount(); k++) {
                if ((known >> k & 1) != 0) {
                    dentInto(explained, 0, pad.noteCells[k], pad.forceOn(k, sheet));
                }
            }
        }

        /** Whether there is a set of cells for a lost note of this force; then must and may tell which. */
        boolean guess(int force) {
            must = 0;
            may = 0;
            if (force <= 0) {
                return false;
            }
            for (int c = 0; c < CELLS; c++) {
                boolean open = seen[c] != explained[c];
                if (open && seen[c] != force) {
                    return false;
                }
                if (open) {
                    must |= 1 << c;
                }
                if (open || explained[c] >= force) {
                    may |= 1 << c;
                }
            }
            return true;
        }

        boolean isFit(int cells) {
            return (cells & must) == must && (cells & ~may) == 0;
        }
    }

    /**
     * Rows in which the sheets may have lain. They are laid from the uppermost on: what is dented into a sheet comes
     * from itself and from those ahead of it, so a sheet that can not lie at its place ends the row there.
     */
    private static final class Rows {
        private static final int LEVELS = MOST_DENT + 1;

        private final int[] row = new int[MOST_SHEETS];
        private final int[] placeOf = new int[MOST_SHEETS];
        private final int[] shownAt = new int[MOST_SHEETS * LEVELS];
        private final int[] pressed = new int[LEVELS];
        private int found = 0;

        int sheetAt(int place) {
            return place >= 0 && place < MOST_SHEETS ? row[place] : NONE;
        }

        /** How many rows there are, at most so many; the row holds the last one that was found. */
        int search(Pad pad, int most) {
            for (int s = 0; s < pad.sheets; s++) {
                for (int q = 1; q < LEVELS; q++) {
                    shownAt[s * LEVELS + q] = pad.dentedAtLeast(s, q);
                }
            }
            found = 0;
            layFrom(pad, 0, 0, most);
            return found;
        }

        private void layFrom(Pad pad, int place, int laid, int most) {
            if (place >= pad.sheets || place >= MOST_SHEETS) {
                found++;
                return;
            }
            for (int s = 0; s < pad.sheets && found < most; s++) {
                if ((laid >> s & 1) == 0) {
                    row[place] = s;
                    placeOf[s] = place;
                    if (mayLie(pad, s, place, laid | 1 << s)) {
                        layFrom(pad, place + 1, laid | 1 << s, most);
                    }
                }
            }
        }

        private boolean mayLie(Pad pad, int sheet, int place, int laid) {
            for (int q = 1; q < LEVELS; q++) {
                pressed[q] = 0;
            }
            for (int k = 0; k < pad.noteCount(); k++) {
                int writtenOn = pad.noteSheet[k];
                if ((laid >> writtenOn & 1) != 0) {
                    pressed[pad.forceDown(k, place - placeOf[writtenOn])] |= pad.noteCells[k];
                }
            }
            int atLeast = 0;
            for (int q = MOST_DENT; q >= 1; q--) {
                atLeast |= pressed[q];
                if (atLeast != shownAt[sheet * LEVELS + q]) {
                    return false;
                }
            }
            return true;
        }
    }

    /** The text. It is read token by token into a draft, so that a fault leaves the pad as it is. */
    private static final class Reader {
        private static final int END = 0;
        private static final int WORD = 1;
        private static final int NUMBER = 2;
        private static final int STOP = 3;
        private static final int BROKEN = 4;

        private final int[] text = new int[MOST_BYTES];
        private int length = 0;
        private int next = 0;
        private int token = END;
        private int start = 0;
        private int value = 0;
        private int kind = 0;
        private int press = 0;

        /** Reading ends at the token that can not stand there, so its start is the fault. */
        int fault() {
            return start;
        }

        /** How many items there are; below 0: a fault. */
        int readInto(Pad draft, PenBox box) {
            next = 0;
            step();
            if (!readFirst(draft)) {
                return NONE;
            }
            int items = 1;
            // Each item takes two bytes at least, so the text's length bounds them.
            for (int turn = 0; turn <= MOST_BYTES && token != END; turn++) {
                if (!readItem(draft, box)) {
                    return NONE;
                }
                items++;
            }
            return items;
        }

        private boolean readFirst(Pad draft) {
            if (!isWord("pad")) {
                return false;
            }
            step();
            if (!isNumber(1, MOST_SHEETS)) {
                return false;
            }
            draft.beginAnew(value);
            step();
            return passStop();
        }

        private boolean readItem(Pad draft, PenBox box) {
            if (isWord("carbon")) {
                return readCarbon(draft);
            }
            boolean tears = isWord("tear");
            boolean writes = isWord("note") && draft.noteCount() < MOST_NOTES;
            if (!tears && !writes || draft.isUsedUp()) {
                return false;
            }
            step();
            if (tears) {
                draft.tearTop();
            } else if (readPen()) {
                int cells = readCells();
                draft.putNote(box, kind, press, cells);
            } else {
                return false;
            }
            return passStop();
        }

        private boolean readCarbon(Pad draft) {
            step();
            if (!isNumber(0, draft.sheets - 1)) {
                return false;
            }
            draft.carbonBits |= 1 << value;
            step();
            return passStop();
        }

        private boolean readPen() {
            if (!isNumber(0, KINDS - 1)) {
                return false;
            }
            kind = value;
            step();
            if (!isNumber(1, MOST_PRESS)) {
                return false;
            }
            press = value;
            step();
            return true;
        }

        /** A number that is no rising cell stays as the token, where no stop is then found. */
        private int readCells() {
            int cells = 0;
            int least = 0;
            for (int turn = 0; turn < CELLS && isNumber(least, CELLS - 1); turn++) {
                cells |= 1 << value;
                least = value + 1;
                step();
            }
            return cells;
        }

        private boolean passStop() {
            if (token != STOP) {
                return false;
            }
            step();
            return true;
        }

        private boolean isNumber(int least, int most) {
            return token == NUMBER && value >= least && value <= most;
        }

        private boolean isWord(String name) {
            if (token != WORD || next - start != name.length()) {
                return false;
            }
            for (int i = 0; i < name.length(); i++) {
                if (text[start + i] != name.charAt(i)) {
                    return false;
                }
            }
            return true;
        }

        private boolean isWithin(int place, int least, int most) {
            return place >= 0 && place < length && text[place] >= least && text[place] <= most;
        }

        private void step() {
            while (next < length && text[next] == ' ') {
                next++;
            }
            start = next;
            if (next >= length) {
                token = END;
            } else if (isWithin(next, 'a', 'z')) {
                passWord();
            } else if (isWithin(next, '0', '9')) {
                passFigures();
            } else {
                token = text[next] == ';' ? STOP : BROKEN;
                next++;
            }
        }

        private void passWord() {
            token = WORD;
            while (next < length && isWithin(next, 'a', 'z')) {
                next++;
            }
        }

        /** A third figure breaks the whole number, so the fault lies where the number begins. */
        private void passFigures() {
            value = 0;
            while (next < length && isWithin(next, '0', '9')) {
                value = next - start < 2 ? 10 * value + text[next] - '0' : value;
                next++;
            }
            token = next - start > 2 ? BROKEN : NUMBER;
        }
    }
}
