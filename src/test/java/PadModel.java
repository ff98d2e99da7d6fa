import java.math.BigInteger;
import java.util.ArrayDeque;
import java.util.ArrayList;
import java.util.Deque;
import java.util.List;
import java.util.regex.Matcher;
import java.util.regex.Pattern;

/**
 * The document in its plainest form, to be compared with the class: nothing is kept but the notes as they came; what a
 * sheet has is worked out of them at each call, and what may have been is tried out set by set and row by row.
 */
final class PadModel {
    record Note(int kind, int press, int cells, int sheet, int carbons) { }

    record Moment(int torn, List<Note> notes) { }

    record All(int n, int carbons, Moment moment, List<Integer> words, List<Moment> undo) { }

    private int n = 4;
    private int carbons = 0;
    private Moment moment = new Moment(0, List.of());
    private List<Integer> words = new ArrayList<>();
    private Deque<Moment> undo = new ArrayDeque<>();
    private final All[] images = new All[2];
    private final StringBuilder text = new StringBuilder();
    private BigInteger above = BigInteger.ZERO;
    private BigInteger below = BigInteger.ONE;
    private final int[] refused = new int[3];

    private int bad(int answer) {
        refused[0]++;
        return answer;
    }

    private int no() {
        refused[1]++;
        return -3;
    }

    private int full() {
        refused[2]++;
        return -4;
    }

    private static boolean in(int v, int least, int most) {
        return v >= least && v <= most;
    }

    private static boolean has(int bits, int i) {
        return (bits >> i) % 2 != 0;
    }

    private boolean sheetTold(int s) {
        return in(s, 0, n - 1);
    }

    private boolean notesTold(int bits) {
        return in(bits, 0, (1 << moment.notes.size()) - 1);
    }

    static int forceBy(int kind, int p, int d) {
        int f = switch (kind) {
            case 0 -> p - d;
            case 1, 3 -> p + 1 - d;
            case 2 -> (p - d) / 2;
            case 4 -> d < 2 ? (p - d) / 2 : 0;
            default -> p + 1 - d / 2;
        };
        return Math.max(0, Math.min(9, f));
    }

    private static boolean inks(int kind) {
        return kind != 3 && kind != 5;
    }

    private static int forceOn(Note note, int sheet) {
        return sheet < note.sheet ? 0 : forceBy(note.kind, note.press, sheet - note.sheet);
    }

    private int dentBy(List<Note> notes, int sheet, int cell) {
        return notes.stream().filter(k -> has(k.cells, cell)).mapToInt(k -> forceOn(k, sheet)).max().orElse(0);
    }

    private int inkOn(int sheet) {
        int bits = 0;
        for (Note k : moment.notes) {
            bits |= k.sheet == sheet && inks(k.kind) ? k.cells : 0;
        }
        return bits;
    }

    private int copyOn(int sheet) {
        int bits = 0;
        for (Note k : moment.notes) {
            boolean copied = sheet > k.sheet && has(k.carbons, sheet - 1) && forceOn(k, sheet) >= 2;
            bits |= copied ? k.cells : 0;
        }
        return bits;
    }

    int pad(int m) {
        if (!in(m, 1, 6)) {
            return bad(-2);
        }
        int was = n;
        n = m;
        carbons = 0;
        moment = new Moment(0, List.of());
        words = new ArrayList<>();
        undo = new ArrayDeque<>();
        return was;
    }

    int carbons(int sheets) {
        if (!in(sheets, 0, (1 << n) - 1)) {
            return bad(-2);
        }
        int was = carbons;
        carbons = sheets;
        return was;
    }

    private void goOn(Moment next) {
        undo.addLast(moment);
        if (undo.size() > 8) {
            undo.removeFirst();
        }
        moment = next;
    }

    private static List<Note> with(List<Note> notes, Note one) {
        List<Note> more = new ArrayList<>(notes);
        more.add(one);
        return more;
    }

    int write(int kind, int press, int cells) {
        if (!in(kind, 0, 5) || !in(press, 1, 9) || !in(cells, 0, 4095)) {
            return bad(-2);
        }
        if (moment.torn == n) {
            return no();
        }
        if (moment.notes.size() == 10) {
            return full();
        }
        goOn(new Moment(moment.torn, with(moment.notes, new Note(kind, press, cells, moment.torn, carbons))));
        return moment.notes.size() - 1;
    }

    int tear() {
        if (moment.torn == n) {
            return no();
        }
        goOn(new Moment(moment.torn + 1, moment.notes));
        return moment.torn - 1;
    }

    int undo() {
        if (undo.isEmpty()) {
            return no();
        }
        moment = undo.removeLast();
        return moment.notes.size();
    }

    int word(int cells) {
        if (!in(cells, 0, 4095)) {
            return bad(-2);
        }
        if (words.size() == 8) {
            return full();
        }
        words.add(cells);
        return words.size() - 1;
    }

    int forget() {
        int was = words.size();
        words = new ArrayList<>();
        return was;
    }

    int type(int c) {
        if (!in(c, 0, 127)) {
            return bad(-2);
        }
        if (text.length() == 150) {
            return full();
        }
        text.append((char) c);
        return text.length();
    }

    int clear() {
        int was = text.length();
        text.setLength(0);
        return was;
    }

    private static final Pattern TOKEN = Pattern.compile("[a-z]+|[0-9]+|[^ ]");

    int read() {
        List<String> tokens = new ArrayList<>();
        List<Integer> places = new ArrayList<>();
        Matcher m = TOKEN.matcher(text.toString().replace('\n', '?').replace('\r', '?'));
        while (m.find()) {
            tokens.add(m.group());
            places.add(m.start());
        }
        tokens.add("");
        places.add(text.length());
        int sheets = 0;
        int under = 0;
        int items = 0;
        int torn = 0;
        List<Note> notes = List.of();
        int t = 0;
        while (items == 0 || t < tokens.size() - 1) {
            String name = tokens.get(t);
            boolean may = items == 0 ? name.equals("pad") : switch (name) {
                case "carbon" -> true;
                case "tear" -> torn < sheets;
                case "note" -> torn < sheets && notes.size() < 10;
                default -> false;
            };
            if (!may) {
                return -10 - places.get(t);
            }
            t++;
            int[] least = name.equals("pad") ? new int[] {1} : name.equals("tear") ? new int[] {}
                : name.equals("carbon") ? new int[] {0} : new int[] {0, 1};
            int[] most = name.equals("pad") ? new int[] {6} : name.equals("tear") ? new int[] {}
                : name.equals("carbon") ? new int[] {sheets - 1} : new int[] {5, 9};
            int[] values = new int[2];
            for (int i = 0; i < least.length; i++, t++) {
                values[i] = numberOf(tokens.get(t));
                if (!in(values[i], least[i], most[i])) {
                    return -10 - places.get(t);
                }
            }
            int cells = 0;
            for (int ahead = -1; name.equals("note") && in(numberOf(tokens.get(t)), ahead + 1, 11); t++) {
                ahead = numberOf(tokens.get(t));
                cells |= 1 << ahead;
            }
            if (!tokens.get(t).equals(";")) {
                return -10 - places.get(t);
            }
            t++;
            items++;
            switch (name) {
                case "pad" -> sheets = values[0];
                case "carbon" -> under |= 1 << values[0];
                case "tear" -> torn++;
                default -> notes = with(notes, new Note(values[0], values[1], cells, torn, under));
            }
        }
        n = sheets;
        carbons = under;
        moment = new Moment(torn, notes);
        words = new ArrayList<>();
        undo = new ArrayDeque<>();
        return items;
    }

    private static int numberOf(String token) {
        return token.matches("[0-9][0-9]?") ? Integer.parseInt(token) : -1;
    }

    int of(int sheet, int what) {
        if (!sheetTold(sheet) || !in(what, 0, 3)) {
            return bad(-10);
        }
        if (what == 0) {
            return inkOn(sheet);
        }
        if (what == 1) {
            return copyOn(sheet);
        }
        if (what == 2) {
            return Math.max(-1, sheet - moment.torn);
        }
        int bits = 0;
        for (int k = 0; k < moment.notes.size(); k++) {
            bits |= moment.notes.get(k).sheet == sheet ? 1 << k : 0;
        }
        return bits;
    }

    int dent(int sheet, int cell) {
        return sheetTold(sheet) && in(cell, 0, 11) ? dentBy(moment.notes, sheet, cell) : bad(-2);
    }

    int about(int note, int what) {
        if (!in(note, 0, moment.notes.size() - 1) || !in(what, 0, 5)) {
            return bad(-2);
        }
        Note k = moment.notes.get(note);
        return List.of(k.kind, k.press, k.cells, k.sheet, forceBy(k.kind, k.press, 0), inks(k.kind) ? 1 : 0).get(what);
    }

    int force(int kind, int press, int depth) {
        boolean told = in(kind, 0, 5) && in(press, 1, 9) && in(depth, 0, 5);
        return told ? forceBy(kind, press, depth) : bad(-2);
    }

    private int whoseBits(int sheet) {
        int bits = 0;
        for (int k = 0; k < moment.notes.size(); k++) {
            Note one = moment.notes.get(k);
            bits |= one.cells != 0 && forceOn(one, sheet) >= 1 ? 1 << k : 0;
        }
        return bits;
    }

    int whose(int sheet) {
        return sheetTold(sheet) ? whoseBits(sheet) : bad(-2);
    }

    int own(int note, int sheet) {
        if (!in(note, 0, moment.notes.size() - 1) || !sheetTold(sheet)) {
            return bad(-2);
        }
        int bits = 0;
        for (int c = 0; c < 12; c++) {
            int by = 0;
            for (int k = 0; k < moment.notes.size(); k++) {
                Note one = moment.notes.get(k);
                by |= has(one.cells, c) && forceOn(one, sheet) >= 1 ? 1 << k : 0;
            }
            bits |= by == 1 << note ? 1 << c : 0;
        }
        return bits;
    }

    int shown(int sheet, int q) {
        if (!sheetTold(sheet) || !in(q, 1, 9)) {
            return bad(-2);
        }
        int bits = 0;
        for (int c = 0; c < 12; c++) {
            bits |= dentBy(moment.notes, sheet, c) >= q ? 1 << c : 0;
        }
        return bits;
    }

    private List<Note> knownOf(int bits) {
        List<Note> known = new ArrayList<>();
        for (int k = 0; k < moment.notes.size(); k++) {
            if (has(bits, k)) {
                known.add(moment.notes.get(k));
            }
        }
        return known;
    }

    /** Every set of cells is tried: known notes and the lost one together must make just the dents. */
    private List<Integer> fitting(int sheet, int known, int force) {
        List<Integer> sets = new ArrayList<>();
        int[] dents = new int[12];
        int[] explained = new int[12];
        for (int c = 0; c < 12; c++) {
            dents[c] = dentBy(moment.notes, sheet, c);
            explained[c] = dentBy(knownOf(known), sheet, c);
        }
        for (int set = 0; set < 4096 && force > 0; set++) {
            boolean fits = true;
            for (int c = 0; c < 12 && fits; c++) {
                fits = dents[c] == Math.max(explained[c], has(set, c) ? force : 0);
            }
            if (fits) {
                sets.add(set);
            }
        }
        return sets;
    }

    int lost(int sheet, int known, int kind, int press, int depth, int what) {
        boolean told = sheetTold(sheet) && notesTold(known) && in(kind, 0, 5) && in(press, 1, 9);
        if (!told || !in(depth, 0, 5) || !in(what, 0, 3)) {
            return bad(-10);
        }
        List<Integer> sets = fitting(sheet, known, forceBy(kind, press, depth));
        if (what == 2) {
            return sets.size();
        }
        if (what == 3) {
            int bits = 0;
            for (int w = 0; w < words.size(); w++) {
                bits |= sets.contains(words.get(w)) ? 1 << w : 0;
            }
            return bits;
        }
        if (sets.isEmpty()) {
            return -1;
        }
        return sets.stream().reduce(sets.get(0), what == 0 ? (a, b) -> a & b : (a, b) -> a | b);
    }

    int pen(int sheet, int known, int depth, int cells, int what) {
        boolean told = sheetTold(sheet) && notesTold(known) && in(depth, 0, 5) && in(cells, 1, 4095);
        if (!told || !in(what, 0, 1)) {
            return bad(-10);
        }
        boolean[] fits = new boolean[10];
        for (int f = 1; f <= 9; f++) {
            fits[f] = fitting(sheet, known, f).contains(cells);
        }
        List<Integer> pairs = new ArrayList<>();
        for (int pair = 0; pair < 60; pair++) {
            if (pair % 10 != 0 && fits[forceBy(pair / 10, pair % 10, depth)]) {
                pairs.add(pair);
            }
        }
        return what == 0 ? pairs.size() : pairs.isEmpty() ? -1 : pairs.get(0);
    }

    private void rowsFrom(List<Integer> row, List<List<Integer>> rows) {
        if (row.size() == n) {
            if (rowFits(row)) {
                rows.add(new ArrayList<>(row));
            }
            return;
        }
        for (int s = 0; s < n; s++) {
            if (!row.contains(s)) {
                row.add(s);
                rowsFrom(row, rows);
                row.remove(row.size() - 1);
            }
        }
    }

    private boolean rowFits(List<Integer> row) {
        for (int place = 0; place < n; place++) {
            for (int c = 0; c < 12; c++) {
                int made = 0;
                for (Note k : moment.notes) {
                    int depth = place - row.indexOf(k.sheet);
                    if (depth >= 0 && has(k.cells, c)) {
                        made = Math.max(made, forceBy(k.kind, k.press, depth));
                    }
                }
                if (made != dentBy(moment.notes, row.get(place), c)) {
                    return false;
                }
            }
        }
        return true;
    }

    int orders(int i) {
        if (i < -1) {
            return bad(-10);
        }
        if (i >= n) {
            return -5;
        }
        List<List<Integer>> rows = new ArrayList<>();
        rowsFrom(new ArrayList<>(), rows);
        return i == -1 ? rows.size() : rows.isEmpty() ? -1 : rows.get(0).get(i);
    }

    int press(int kind, int depth) {
        if (!in(kind, 0, 5) || !in(depth, 1, 5)) {
            return bad(-2);
        }
        for (int p = 1; p <= 9; p++) {
            if (forceBy(kind, p, depth) >= 2) {
                return p;
            }
        }
        return -1;
    }

    int copies(int sheets, int kind, int press, int what) {
        boolean told = in(sheets, 0, (1 << n) - 1) && sheets % (1 << moment.torn) == 0;
        if (!told || !in(kind, 0, 5) || !in(press, 1, 9) || !in(what, 0, 1)) {
            return bad(-10);
        }
        int best = -1;
        for (int more = 0; more < 1 << n; more++) {
            int copied = 0;
            for (int s = moment.torn + 1; s < n; s++) {
                boolean under = has(carbons | more, s - 1);
                copied |= under && forceBy(kind, press, s - moment.torn) >= 2 ? 1 << s : 0;
            }
            boolean better = best == -1 || Integer.bitCount(more) < Integer.bitCount(best);
            if ((sheets & ~copied) == 0 && better) {
                best = more;
            }
        }
        return best == -1 || what == 1 ? best : Integer.bitCount(best);
    }

    int rub(int sheet, int cells, int what) {
        if (!sheetTold(sheet) || !in(cells, 0, 4095) || !in(what, 0, 1)) {
            return bad(-2);
        }
        BigInteger a = BigInteger.ONE;
        BigInteger b = BigInteger.ONE;
        for (int c = 0; c < 12; c++) {
            int seen = dentBy(moment.notes, sheet, c);
            int odds = has(cells, c) ? seen : what == 0 ? 10 - seen : 10;
            a = a.multiply(BigInteger.valueOf(odds));
            b = b.multiply(BigInteger.TEN);
        }
        BigInteger g = a.gcd(b);
        above = a.divide(g);
        below = b.divide(g);
        return 1;
    }

    int torn(int notes) {
        if (!notesTold(notes)) {
            return bad(-2);
        }
        for (int more = 0; moment.torn + more < n; more++) {
            if ((whoseBits(moment.torn + more) & notes) == 0) {
                return more;
            }
        }
        return -1;
    }

    int drawn(int seed, int m) {
        if (!in(seed, 0, 999999) || !in(m, 0, 20)) {
            return bad(-2);
        }
        if (moment.torn == n) {
            return -1;
        }
        BigInteger x = BigInteger.valueOf(seed);
        List<Note> notes = moment.notes;
        int torn = moment.torn;
        for (int k = 1; k <= m; k++) {
            int[] drawn = new int[3];
            int[] by = {6, 9, 4096};
            for (int i = 0; i < 3; i++) {
                x = x.multiply(BigInteger.valueOf(1103515245)).add(BigInteger.valueOf(12345)).mod(BigInteger.TWO.pow(31));
                drawn[i] = x.shiftRight(16).mod(BigInteger.valueOf(by[i])).intValue();
            }
            notes = with(notes, new Note(drawn[0], drawn[1] + 1, drawn[2], torn, carbons));
            torn += k % 3 == 0 && torn < n - 1 ? 1 : 0;
        }
        int sum = 0;
        for (int c = 0; c < 12; c++) {
            sum += dentBy(notes, n - 1, c);
        }
        return sum;
    }

    long part(int what) {
        return what == 0 ? above.longValueExact() : what == 1 ? below.longValueExact() : bad(-2);
    }

    int image(int i) {
        if (!in(i, 0, 1)) {
            return bad(-2);
        }
        images[i] = new All(n, carbons, moment, List.copyOf(words), List.copyOf(undo));
        return 1;
    }

    int from(int i) {
        if (!in(i, 0, 1)) {
            return bad(-2);
        }
        if (images[i] == null) {
            return no();
        }
        n = images[i].n;
        carbons = images[i].carbons;
        moment = images[i].moment;
        words = new ArrayList<>(images[i].words);
        undo = new ArrayDeque<>(images[i].undo);
        return 1;
    }

    int status(int what) {
        return in(what, 0, 2) ? refused[what] : bad(-1);
    }

    private int[] counts() {
        return new int[] {n, moment.torn, moment.notes.size(), words.size(), carbons, undo.size(), text.length()};
    }

    int count(int what) {
        return in(what, 0, 6) ? counts()[what] : bad(-2);
    }

    long digest() {
        List<Long> values = new ArrayList<>();
        for (int v : counts()) {
            values.add((long) v);
        }
        for (int s = 0; s < n; s++) {
            values.add((long) inkOn(s));
            values.add((long) copyOn(s));
            for (int c = 0; c < 12; c++) {
                values.add((long) dentBy(moment.notes, s, c));
            }
        }
        for (Note k : moment.notes) {
            values.addAll(List.of((long) k.kind, (long) k.press, (long) k.cells, (long) k.sheet));
        }
        words.forEach(w -> values.add((long) w));
        values.add(above.longValueExact());
        values.add(below.longValueExact());
        return values.stream().reduce(919L, (h, v) -> 31 * h + v);
    }
}
