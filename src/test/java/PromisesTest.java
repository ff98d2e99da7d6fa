/** Each promise of the document with answers worked out by hand: ordinary calls, the edges it names, wrong inputs. */
public final class PromisesTest {
    private static int wrong = 0;
    private static String promise = "";

    private static void due(String call, long got, long want) {
        if (got != want) {
            wrong++;
            System.out.println(promise + ": " + call + " answered " + got + ", due is " + want);
        }
    }

    private static void promise(int number, String name) {
        promise = "promise " + number + ", " + name;
    }

    /** Cells by their numbers. */
    private static int cells(int... numbers) {
        int bits = 0;
        for (int c : numbers) {
            bits |= 1 << c;
        }
        return bits;
    }

    private static int readText(PressedPad x, String text) {
        x.clear();
        for (int i = 0; i < text.length(); i++) {
            x.type(text.charAt(i));
        }
        return x.read();
    }

    private static void fault(String text, int place) {
        PressedPad x = new PressedPad();
        x.write(0, 3, 5);
        long before = x.digest();
        due("read of '" + text + "'", readText(x, text), -10 - place);
        due("bytes", x.clear(), text.length());
        due("digest behind a fault in '" + text + "'", x.digest(), before);
        due("status(0)", x.status(0) + x.status(1) + x.status(2), 0);
    }

    public static void main(String[] args) {
        newObject();
        pads();
        carbonsAndCopies();
        writes();
        copiesByWriting();
        tears();
        undoes();
        undoneLeavesTheRest();
        words();
        types();
        readsWell();
        readsFaults();
        ofSheets();
        dents();
        abouts();
        forces();
        whoseAndOwn();
        shows();
        lostNotes();
        lostWords();
        pens();
        orders();
        presses();
        fewestCarbons();
        rubbings();
        leastTorn();
        draws();
        images();
        statuses();
        counts();
        digests();
        System.out.println(wrong == 0 ? "PromisesTest: all as due" : "PromisesTest: " + wrong + " are wrong");
        System.exit(wrong == 0 ? 0 : 1);
    }

    private static void newObject() {
        promise(1, "a new object");
        PressedPad x = new PressedPad();
        int[] counts = {4, 0, 0, 0, 0, 0, 0};
        for (int what = 0; what <= 6; what++) {
            due("count(" + what + ")", x.count(what), counts[what]);
        }
        for (int s = 0; s < 4; s++) {
            due("ink", x.of(s, 0), 0);
            due("copy", x.of(s, 1), 0);
            due("depth", x.of(s, 2), s);
            due("shown", x.shown(s, 1), 0);
        }
        due("part(0)", x.part(0), 0);
        due("part(1)", x.part(1), 1);
        due("status", x.status(0) + x.status(1) + x.status(2), 0);
        due("from(0)", x.from(0), PressedPad.NO);
        due("from(1)", x.from(1), -3);
        due("NONE", PressedPad.NONE, -1);
        due("BAD", PressedPad.BAD, -2);
        due("FULL", PressedPad.FULL, -4);
    }

    private static void pads() {
        promise(2, "pad");
        PressedPad x = new PressedPad();
        x.carbons(3);
        x.write(0, 9, 7);
        x.tear();
        x.word(5);
        due("pad(0)", x.pad(0), -2);
        due("pad(7)", x.pad(7), -2);
        due("pad(-1)", x.pad(Integer.MIN_VALUE), -2);
        due("count(0)", x.count(0), 4);
        due("count(1)", x.count(1), 1);
        due("pad(6)", x.pad(6), 4);
        for (int what = 1; what <= 6; what++) {
            due("count(" + what + ")", x.count(what), 0);
        }
        for (int s = 0; s < 6; s++) {
            due("ink", x.of(s, 0), 0);
            due("copy", x.of(s, 1), 0);
            due("shown", x.shown(s, 1), 0);
            due("depth", x.of(s, 2), s);
        }
        due("pad(1)", x.pad(1), 6);
        due("of(1, 0)", x.of(1, 0), -10);
        due("pad(4)", x.pad(4), 1);
        due("undo()", x.undo(), -3);
    }

    private static void carbonsAndCopies() {
        promise(3, "carbons");
        PressedPad x = new PressedPad();
        due("carbons(15)", x.carbons(15), 0);
        due("carbons(16)", x.carbons(16), -2);
        due("carbons(-1)", x.carbons(-1), -2);
        due("carbons(5)", x.carbons(5), 15);
        due("count(4)", x.count(4), 5);
        x.tear();
        due("carbons(2), sheet 0 torn with its own", x.carbons(2), 5);
        x.pad(6);
        due("carbons(63)", x.carbons(63), 0);
        due("carbons(64)", x.carbons(64), -2);
    }

    private static void writes() {
        promise(4, "write");
        PressedPad x = new PressedPad();
        due("write(-1, 1, 0)", x.write(-1, 1, 0), -2);
        due("write(6, 1, 0)", x.write(6, 1, 0), -2);
        due("write(0, 0, 0)", x.write(0, 0, 0), -2);
        due("write(0, 10, 0)", x.write(0, 10, 0), -2);
        due("write(0, 1, -1)", x.write(0, 1, -1), -2);
        due("write(0, 1, 4096)", x.write(0, 1, 4096), -2);
        due("write(0, 3, 2+4)", x.write(0, 3, cells(1, 2)), 0);
        due("write(3, 4, 4+8)", x.write(3, 4, cells(2, 3)), 1);
        due("ink: a stylus leaves none", x.of(0, 0), cells(1, 2));
        due("ink below", x.of(1, 0), 0);
        int[][] dents = {{0, 3, 5, 5}, {0, 2, 4, 4}, {0, 1, 3, 3}, {0, 0, 2, 2}};
        for (int s = 0; s < 4; s++) {
            for (int c = 0; c < 4; c++) {
                due("dent(" + s + ", " + c + ")", x.dent(s, c), dents[s][c]);
            }
        }
        due("a lesser press", x.write(0, 1, cells(1, 2, 3)), 2);
        due("leaves the dent", x.dent(0, 3), 5);
        for (int k = 3; k < 10; k++) {
            due("write", x.write(0, 1, 0), k);
        }
        due("an 11th", x.write(0, 1, 0), -4);
        due("BAD ahead of FULL", x.write(0, 0, 0), -2);
        for (int s = 0; s < 4; s++) {
            x.tear();
        }
        due("NO ahead of FULL", x.write(0, 1, 0), -3);
        due("BAD ahead of NO", x.write(0, 1, 4096), -2);
        due("status(0)", x.status(0), 8);
        due("status(1)", x.status(1), 1);
        due("status(2)", x.status(2), 1);
    }

    private static void copiesByWriting() {
        promise(4, "write, copies");
        PressedPad x = new PressedPad();
        x.carbons(cells(0, 2, 3));
        x.write(0, 4, 1);
        due("depth 1, force 3", x.of(1, 1), 1);
        due("no carbon above", x.of(2, 1), 0);
        due("depth 3, force 1", x.of(3, 1), 0);
        x.write(0, 5, 2);
        due("depth 3, force 2", x.of(3, 1), 2);
        x.write(3, 1, 4);
        due("depth 1, force 1", x.of(1, 1), 3);
        x.write(3, 2, 8);
        due("a stylus copies, too", x.of(1, 1), 11);
        due("the uppermost one has no copy", x.of(0, 1), 0);
        x.tear();
        x.write(0, 9, 16);
        due("its carbon went with sheet 0", x.of(1, 1), 11);
        due("depth 2 now", x.of(3, 1), 18);
    }

    private static void tears() {
        promise(5, "tear");
        PressedPad x = new PressedPad();
        x.pad(2);
        x.write(0, 3, 1);
        due("tear()", x.tear(), 0);
        due("depth", x.of(0, 2), -1);
        due("depth", x.of(1, 2), 0);
        x.write(0, 5, 2);
        due("a torn one gets no dent", x.shown(0, 1), 1);
        due("ink of the next", x.of(1, 0), 2);
        due("tear()", x.tear(), 1);
        due("tear()", x.tear(), -3);
        due("count(1)", x.count(1), 2);
        due("status(1)", x.status(1), 1);
    }

    private static void undoes() {
        promise(6, "undo");
        PressedPad x = new PressedPad();
        due("undo()", x.undo(), -3);
        x.write(0, 9, 1);
        long first = x.digest();
        x.write(1, 9, 2);
        x.undo();
        due("digest", x.digest(), first);
        x.tear();
        due("undo() of a tear", x.undo(), 1);
        due("digest", x.digest(), first);
        due("undo()", x.undo(), 0);
        due("dent", x.dent(3, 0), 0);
        due("undo()", x.undo(), -3);
        for (int k = 0; k < 9; k++) {
            x.write(0, 1, k);
        }
        due("count(5)", x.count(5), 8);
        for (int k = 8; k > 0; k--) {
            due("undo()", x.undo(), k);
        }
        due("8 at most", x.undo(), -3);
        due("the first note stays", x.count(2), 1);
        due("write behind it", x.write(2, 3, 9), 1);
        due("about", x.about(1, 0), 2);
    }

    private static void undoneLeavesTheRest() {
        promise(6, "undo, what else is told");
        PressedPad x = new PressedPad();
        x.write(0, 9, 1);
        x.carbons(1);
        x.word(3);
        x.type(';');
        x.rub(0, 1, 1);
        due("count(5)", x.count(5), 1);
        x.write(0, 9, 2);
        due("copy", x.of(1, 1), 2);
        due("undo()", x.undo(), 1);
        due("copy", x.of(1, 1), 0);
        due("undo()", x.undo(), 0);
        due("carbons", x.count(4), 1);
        due("words", x.count(3), 1);
        due("bytes", x.count(6), 1);
        due("part(0)", x.part(0), 9);
    }

    private static void words() {
        promise(7, "word");
        PressedPad x = new PressedPad();
        due("word(-1)", x.word(-1), -2);
        due("word(4096)", x.word(4096), -2);
        for (int w = 0; w < 8; w++) {
            due("word", x.word(w == 0 ? 4095 : 0), w);
        }
        due("word", x.word(0), -4);
        due("BAD ahead of FULL", x.word(4096), -2);
        due("count(3)", x.count(3), 8);
        promise(8, "forget");
        due("forget()", x.forget(), 8);
        due("forget()", x.forget(), 0);
        due("word", x.word(1), 0);
    }

    private static void types() {
        promise(9, "type");
        PressedPad x = new PressedPad();
        due("type(-1)", x.type(-1), -2);
        due("type(128)", x.type(128), -2);
        due("type(0)", x.type(0), 1);
        due("type(127)", x.type(127), 2);
        for (int i = 3; i <= 150; i++) {
            due("type", x.type(' '), i);
        }
        due("type", x.type(' '), -4);
        due("BAD ahead of FULL", x.type(128), -2);
        due("status(0)", x.status(0), 3);
        due("status(2)", x.status(2), 1);
        promise(10, "clear");
        due("clear()", x.clear(), 150);
        due("clear()", x.clear(), 0);
        due("type", x.type('a'), 1);
    }

    private static void readsWell() {
        promise(11, "read");
        PressedPad x = new PressedPad();
        x.word(1);
        x.write(0, 1, 1);
        x.rub(0, 1, 1);
        x.image(0);
        String text = "  pad 3 ;carbon0;carbon 02;note 0 5 0 07 11;tear;note 3 9;";
        due("read()", readText(x, text), 6);
        int[] counts = {3, 1, 2, 0, 5, 0, text.length()};
        for (int what = 0; what <= 6; what++) {
            due("count(" + what + ")", x.count(what), counts[what]);
        }
        due("ink", x.of(0, 0), cells(0, 7, 11));
        due("copy", x.of(1, 1), cells(0, 7, 11));
        due("no carbon", x.of(2, 1), 0);
        due("dent", x.dent(2, 7), 3);
        due("about(1, 3)", x.about(1, 3), 1);
        due("about(1, 2)", x.about(1, 2), 0);
        due("undo()", x.undo(), -3);
        due("the fraction stays", x.part(1), 10);
        due("images stay", x.from(0), 1);
        due("the text stays", x.count(6), text.length());
        due("words of the image", x.count(3), 1);
        due("pad alone", readText(x, "pad 6;"), 1);
        due("count(0)", x.count(0), 6);
        due("10 notes", readText(x, "pad 1;" + "note 5 9;".repeat(10)), 11);
        due("a carbon below a torn sheet", readText(x, "pad 2;tear;tear;carbon 0;carbon 0;"), 5);
        due("all cells", readText(x, "pad 1;note 0 1 0 1 2 3 4 5 6 7 8 9 10 11;"), 2);
        due("about(0, 2)", x.about(0, 2), 4095);
    }

    private static void readsFaults() {
        promise(11, "read, faults");
        fault("", 0);
        fault("   ", 3);
        fault("pad", 3);
        fault("pad 1", 5);
        fault("pad 1 ;note 0 1 ", 16);
        fault("pa 1;", 0);
        fault(" pads 1;", 1);
        fault("PAD 1;", 0);
        fault("tear;", 0);
        fault("1;", 0);
        fault(";", 0);
        fault("pad 0;", 4);
        fault("pad 7;", 4);
        fault("pad 10;", 4);
        fault("pad 004;", 4);
        fault("pad 041;", 4);
        fault("pad 4 4;", 6);
        fault("pad pad;", 4);
        fault("pad;", 3);
        fault("pad -1;", 4);
        fault("pad\n1;", 3);
        fault("pad 2;pad 2;", 6);
        fault("pad 2;carbon 2;", 13);
        fault("pad 2;carbon;", 12);
        fault("pad 2;carbon 0 1;", 15);
        fault("pad 2;tear 0;", 11);
        fault("pad 2;tear;tear;tear;", 16);
        fault("pad 1;tear;note 9;", 11);
        fault("pad 1;note 6 1;", 11);
        fault("pad 1;note 5 0;", 13);
        fault("pad 1;note 5 10;", 13);
        fault("pad 1;note 5;", 12);
        fault("pad 1;note 5 9 12;", 15);
        fault("pad 1;note 5 9 3 3;", 17);
        fault("pad 1;note 5 9 3 2;", 17);
        fault("pad 1;note 5 9 3 011;", 17);
        fault("pad 1;note 5 9 3 tear;", 17);
        fault("pad 1;nota 5 9;", 6);
        fault("pad 1;;", 6);
        fault("pad 1;" + "note 0 1;".repeat(10) + "note 0 1;", 96);
        fault("pad 1;note 0 1 #", 15);
    }

    private static void ofSheets() {
        promise(12, "of");
        PressedPad x = new PressedPad();
        due("of(-1, 0)", x.of(-1, 0), -10);
        due("of(4, 0)", x.of(4, 0), -10);
        due("of(0, -1)", x.of(0, -1), -10);
        due("of(0, 4)", x.of(0, 4), -10);
        x.carbons(1);
        x.write(0, 9, 3);
        x.write(5, 9, 4);
        x.tear();
        x.write(4, 9, 8);
        due("ink", x.of(0, 0), 3);
        due("ink", x.of(1, 0), 8);
        due("copy", x.of(1, 1), 7);
        due("depth of a torn one", x.of(0, 2), -1);
        due("depth", x.of(3, 2), 2);
        due("notes", x.of(0, 3), 3);
        due("notes", x.of(1, 3), 4);
        due("notes", x.of(2, 3), 0);
        due("status(0)", x.status(0), 4);
    }

    private static void dents() {
        promise(13, "dent");
        PressedPad x = new PressedPad();
        x.write(2, 9, cells(0, 11));
        due("dent(0, 0)", x.dent(0, 0), 4);
        due("dent(0, 11)", x.dent(0, 11), 4);
        due("dent(0, 10)", x.dent(0, 10), 0);
        due("dent(3, 11)", x.dent(3, 11), 3);
        due("dent(4, 0)", x.dent(4, 0), -2);
        due("dent(-1, 0)", x.dent(-1, 0), -2);
        due("dent(0, 12)", x.dent(0, 12), -2);
        due("dent(0, -1)", x.dent(0, -1), -2);
    }

    private static void abouts() {
        promise(14, "about");
        PressedPad x = new PressedPad();
        due("about(0, 0)", x.about(0, 0), -2);
        x.tear();
        x.write(2, 7, 4095);
        x.write(5, 9, 0);
        int[][] told = {{2, 7, 4095, 1, 3, 1}, {5, 9, 0, 1, 9, 0}};
        for (int k = 0; k < 2; k++) {
            for (int what = 0; what < 6; what++) {
                due("about(" + k + ", " + what + ")", x.about(k, what), told[k][what]);
            }
        }
        due("about(0, 6)", x.about(0, 6), -2);
        due("about(0, -1)", x.about(0, -1), -2);
        due("about(2, 0)", x.about(2, 0), -2);
        due("about(-1, 0)", x.about(-1, 0), -2);
        int[] inks = {1, 1, 1, 0, 1, 0};
        for (int kind = 0; kind < 6; kind++) {
            x.write(kind, 1, 1);
            due("ink of kind " + kind, x.about(2 + kind, 5), inks[kind]);
        }
    }

    private static void forces() {
        promise(15, "force");
        PressedPad x = new PressedPad();
        int[][] by5 = {
            {5, 4, 3, 2, 1, 0}, {6, 5, 4, 3, 2, 1}, {2, 2, 1, 1, 0, 0},
            {6, 5, 4, 3, 2, 1}, {2, 2, 0, 0, 0, 0}, {6, 6, 5, 5, 4, 4}
        };
        int[][] by1 = {
            {1, 0, 0, 0, 0, 0}, {2, 1, 0, 0, 0, 0}, {0, 0, 0, 0, 0, 0},
            {2, 1, 0, 0, 0, 0}, {0, 0, 0, 0, 0, 0}, {2, 2, 1, 1, 0, 0}
        };
        int[][] by9 = {
            {9, 8, 7, 6, 5, 4}, {9, 9, 8, 7, 6, 5}, {4, 4, 3, 3, 2, 2},
            {9, 9, 8, 7, 6, 5}, {4, 4, 0, 0, 0, 0}, {9, 9, 9, 9, 8, 8}
        };
        for (int kind = 0; kind < 6; kind++) {
            for (int d = 0; d < 6; d++) {
                due("force(" + kind + ", 1, " + d + ")", x.force(kind, 1, d), by1[kind][d]);
                due("force(" + kind + ", 5, " + d + ")", x.force(kind, 5, d), by5[kind][d]);
                due("force(" + kind + ", 9, " + d + ")", x.force(kind, 9, d), by9[kind][d]);
            }
        }
        due("force(-1, 1, 0)", x.force(-1, 1, 0), -2);
        due("force(6, 1, 0)", x.force(6, 1, 0), -2);
        due("force(0, 0, 0)", x.force(0, 0, 0), -2);
        due("force(0, 10, 0)", x.force(0, 10, 0), -2);
        due("force(0, 1, -1)", x.force(0, 1, -1), -2);
        due("force(0, 1, 6)", x.force(0, 1, 6), -2);
    }

    private static void whoseAndOwn() {
        promise(16, "whose");
        PressedPad x = new PressedPad();
        x.write(0, 2, cells(0, 1));
        x.write(0, 1, cells(1, 2));
        x.write(0, 9, 0);
        x.tear();
        x.write(0, 3, cells(0, 3));
        due("whose(0)", x.whose(0), 3);
        due("whose(1): force 0 of note 1", x.whose(1), 9);
        due("whose(2)", x.whose(2), 8);
        due("whose(3)", x.whose(3), 8);
        due("whose(4)", x.whose(4), -2);
        due("whose(-1)", x.whose(-1), -2);
        promise(17, "own");
        due("own(0, 0)", x.own(0, 0), cells(0));
        due("own(1, 0)", x.own(1, 0), cells(2));
        due("own(0, 1)", x.own(0, 1), cells(1));
        due("own(1, 1)", x.own(1, 1), 0);
        due("own(3, 1)", x.own(3, 1), cells(3));
        due("own(3, 2)", x.own(3, 2), cells(0, 3));
        due("own(3, 0): torn by then", x.own(3, 0), 0);
        due("own(2, 0)", x.own(2, 0), 0);
        due("own(4, 0)", x.own(4, 0), -2);
        due("own(-1, 0)", x.own(-1, 0), -2);
        due("own(0, 4)", x.own(0, 4), -2);
        due("own(0, -1)", x.own(0, -1), -2);
    }

    private static void shows() {
        promise(18, "shown");
        PressedPad x = new PressedPad();
        x.write(0, 9, 1);
        x.write(0, 5, 2);
        x.write(0, 1, 2048);
        due("shown(0, 1)", x.shown(0, 1), 2051);
        due("shown(0, 2)", x.shown(0, 2), 3);
        due("shown(0, 5)", x.shown(0, 5), 3);
        due("shown(0, 6)", x.shown(0, 6), 1);
        due("shown(0, 9)", x.shown(0, 9), 1);
        due("shown(1, 9)", x.shown(1, 9), 0);
        due("shown(0, 0)", x.shown(0, 0), -2);
        due("shown(0, 10)", x.shown(0, 10), -2);
        due("shown(4, 1)", x.shown(4, 1), -2);
        due("shown(-1, 1)", x.shown(-1, 1), -2);
    }

    private static void lostNotes() {
        promise(19, "lost");
        PressedPad x = new PressedPad();
        x.write(0, 7, cells(0, 1));
        x.write(0, 5, cells(1, 2));
        // Sheet 1 has dents 6 6 4; note 0 alone explains 6 6 0.
        due("must", x.lost(1, 1, 0, 5, 1, 0), cells(2));
        due("may", x.lost(1, 1, 0, 5, 1, 1), cells(0, 1, 2));
        due("fits", x.lost(1, 1, 0, 5, 1, 2), 4);
        due("by another pen of that force", x.lost(1, 1, 3, 3, 0, 0), cells(2));
        due("too strong", x.lost(1, 1, 0, 6, 1, 0), -1);
        due("too strong", x.lost(1, 1, 0, 6, 1, 1), -1);
        due("too strong", x.lost(1, 1, 0, 6, 1, 2), 0);
        due("too strong", x.lost(1, 1, 0, 6, 1, 3), 0);
        due("note 1 known: 6 is not explained in 2 cells", x.lost(1, 2, 0, 7, 1, 0), cells(0, 1));
        due("none beyond", x.lost(1, 2, 0, 7, 1, 1), cells(0, 1));
        due("just the force that is explained", x.lost(1, 3, 0, 7, 1, 1), cells(0, 1));
        due("all known, a force of 4", x.lost(1, 3, 0, 4, 0, 1), cells(0, 1, 2));
        due("all known, a force of 9", x.lost(1, 3, 0, 9, 0, 2), 1);
        due("a force of 0", x.lost(1, 3, 0, 1, 1, 2), 0);
        due("a force of 0", x.lost(1, 3, 4, 9, 2, 1), -1);
        due("nothing known: two dents", x.lost(1, 0, 0, 7, 1, 0), -1);
        due("sheet", x.lost(4, 0, 0, 1, 0, 0), -10);
        due("sheet", x.lost(-1, 0, 0, 1, 0, 0), -10);
        due("known", x.lost(0, 4, 0, 1, 0, 0), -10);
        due("known", x.lost(0, -1, 0, 1, 0, 0), -10);
        due("kind", x.lost(0, 0, 6, 1, 0, 0), -10);
        due("kind", x.lost(0, 0, -1, 1, 0, 0), -10);
        due("press", x.lost(0, 0, 0, 0, 0, 0), -10);
        due("press", x.lost(0, 0, 0, 10, 0, 0), -10);
        due("depth", x.lost(0, 0, 0, 1, 6, 0), -10);
        due("depth", x.lost(0, 0, 0, 1, -1, 0), -10);
        due("what", x.lost(0, 0, 0, 1, 0, 4), -10);
        due("what", x.lost(0, 0, 0, 1, 0, -1), -10);
        due("status(0)", x.status(0), 12);
    }

    private static void lostWords() {
        promise(19, "lost, words");
        PressedPad x = new PressedPad();
        x.write(0, 7, cells(0, 1));
        x.write(0, 5, cells(1, 2));
        x.word(cells(2));
        x.word(cells(0));
        x.word(cells(0, 1, 2));
        x.word(cells(2, 3));
        x.word(0);
        due("words", x.lost(1, 1, 0, 5, 1, 3), 5);
        due("words: all known, nothing may be", x.lost(1, 3, 0, 9, 0, 3), 16);
        x.forget();
        due("no words", x.lost(1, 1, 0, 5, 1, 3), 0);
        x.pad(1);
        due("fits, empty pad", x.lost(0, 0, 0, 1, 0, 2), 1);
        x.write(0, 9, 4095);
        due("all sets", x.lost(0, 1, 0, 9, 0, 2), 4096);
    }

    private static void pens() {
        promise(20, "pen");
        PressedPad x = new PressedPad();
        x.write(0, 4, cells(0, 1));
        x.write(0, 3, cells(2));
        // Dents 4 4 3; note 0 explains 4 4, so the force is 3: pencil 3, ball 2, nib 6 7, stylus 2, felt 6 7, tool 2.
        due("how many", x.pen(0, 1, 0, cells(2), 0), 8);
        due("the first", x.pen(0, 1, 0, cells(2), 1), 3);
        due("more cells", x.pen(0, 1, 0, cells(0, 2), 0), 8);
        due("a cell too many", x.pen(0, 1, 0, cells(2, 3), 0), 0);
        due("a cell too few", x.pen(0, 1, 0, cells(0), 0), 0);
        due("none", x.pen(0, 1, 0, cells(0), 1), -1);
        // At depth 5: pencil 8, ball 7, stylus 7, tool 4; nib 9 gives 2.
        due("deeper", x.pen(0, 1, 5, cells(2), 0), 4);
        due("deeper", x.pen(0, 1, 5, cells(2), 1), 8);
        x.pad(1);
        x.write(1, 9, 1);
        due("a force of 9 at depth 1: ball, stylus, tool 8 and 9", x.pen(0, 0, 1, 1, 0), 4);
        due("the first", x.pen(0, 0, 1, 1, 1), 19);
        due("no cells", x.pen(0, 0, 0, 0, 0), -10);
        due("cells", x.pen(0, 0, 0, 4096, 0), -10);
        due("sheet", x.pen(1, 0, 0, 1, 0), -10);
        due("sheet", x.pen(-1, 0, 0, 1, 0), -10);
        due("known", x.pen(0, 2, 0, 1, 0), -10);
        due("known", x.pen(0, -1, 0, 1, 0), -10);
        due("depth", x.pen(0, 0, 6, 1, 0), -10);
        due("depth", x.pen(0, 0, -1, 1, 0), -10);
        due("what", x.pen(0, 0, 0, 1, 2), -10);
        due("what", x.pen(0, 0, 0, 1, -1), -10);
        due("status(0)", x.status(0), 10);
    }

    private static void orders() {
        promise(21, "orders");
        PressedPad x = new PressedPad();
        x.pad(6);
        due("no notes", x.orders(-1), 720);
        x.write(0, 2, 1);
        // Sheet 0 has a dent of 2, sheet 1 of 1: sheet 1 lies right behind sheet 0, 5 places for the two, 4! for the rest.
        due("two together", x.orders(-1), 120);
        for (int i = 0; i < 6; i++) {
            due("orders(" + i + ")", x.orders(i), i);
        }
        due("orders(6)", x.orders(6), -5);
        due("orders(-2)", x.orders(-2), -10);
        due("orders(MIN)", x.orders(Integer.MIN_VALUE), -10);
        x.pad(3);
        x.write(0, 1, 1);
        due("one dented alone", x.orders(-1), 6);
        x.tear();
        x.write(0, 1, 2);
        due("two dented alone", x.orders(-1), 6);
        x.pad(3);
        x.write(5, 9, 1);
        due("equal dents below: 9 9 9, any behind it", x.orders(-1), 2);
        x.pad(3);
        x.write(0, 9, 1);
        x.tear();
        x.write(0, 1, 2);
        due("all dents differ", x.orders(-1), 1);
        x.pad(2);
        x.tear();
        x.write(0, 1, 1);
        due("a torn sheet without dents may have lain below", x.orders(-1), 2);
        due("status(0)", x.status(0), 2);
    }

    private static void presses() {
        promise(22, "press");
        PressedPad x = new PressedPad();
        int[][] least = {
            {3, 4, 5, 6, 7}, {2, 3, 4, 5, 6}, {5, 6, 7, 8, 9},
            {2, 3, 4, 5, 6}, {5, -1, -1, -1, -1}, {1, 2, 2, 3, 3}
        };
        for (int kind = 0; kind < 6; kind++) {
            for (int d = 1; d <= 5; d++) {
                due("press(" + kind + ", " + d + ")", x.press(kind, d), least[kind][d - 1]);
            }
        }
        due("press(0, 0)", x.press(0, 0), -2);
        due("press(0, 6)", x.press(0, 6), -2);
        due("press(-1, 1)", x.press(-1, 1), -2);
        due("press(6, 1)", x.press(6, 1), -2);
    }

    private static void fewestCarbons() {
        promise(23, "copies");
        PressedPad x = new PressedPad();
        x.carbons(cells(1));
        due("how many", x.copies(cells(1, 2, 3), 0, 5, 0), 2);
        due("which", x.copies(cells(1, 2, 3), 0, 5, 1), cells(0, 2));
        due("there is one", x.copies(cells(2), 0, 4, 0), 0);
        due("which", x.copies(cells(2), 0, 4, 1), 0);
        due("too little for one", x.copies(cells(1, 3), 0, 4, 0), -1);
        due("too little for one", x.copies(cells(1, 3), 0, 4, 1), -1);
        due("the uppermost", x.copies(cells(0, 1), 0, 9, 1), -1);
        due("no sheets", x.copies(0, 4, 1, 0), 0);
        x.tear();
        due("a torn one", x.copies(cells(0, 2), 0, 9, 0), -10);
        due("depth 2 now", x.copies(cells(3), 0, 4, 1), cells(2));
        due("uppermost now", x.copies(cells(1), 0, 9, 0), -1);
        due("sheets", x.copies(16, 0, 9, 0), -10);
        due("sheets", x.copies(-16, 0, 9, 0), -10);
        due("kind", x.copies(0, 6, 9, 0), -10);
        due("kind", x.copies(0, -1, 9, 0), -10);
        due("press", x.copies(0, 0, 0, 0), -10);
        due("press", x.copies(0, 0, 10, 0), -10);
        due("what", x.copies(0, 0, 1, 2), -10);
        due("what", x.copies(0, 0, 1, -1), -10);
        for (int s = 0; s < 3; s++) {
            x.tear();
        }
        due("no sheets, all torn", x.copies(0, 0, 1, 0), 0);
        due("status(0)", x.status(0), 9);
    }

    private static void rubbings() {
        promise(24, "rub");
        PressedPad x = new PressedPad();
        x.write(0, 5, cells(0));
        x.write(0, 4, cells(1));
        due("rub", x.rub(0, cells(0), 0), 1);
        part(x, 3, 10);
        x.rub(0, cells(0), 1);
        part(x, 1, 2);
        x.rub(0, cells(0, 1), 0);
        part(x, 1, 5);
        x.rub(0, 0, 0);
        part(x, 3, 10);
        x.rub(0, 0, 1);
        part(x, 1, 1);
        x.rub(0, cells(0, 2), 0);
        part(x, 0, 1);
        x.rub(1, cells(1), 1);
        part(x, 3, 10);
        due("rub(4, 0, 0)", x.rub(4, 0, 0), -2);
        due("rub(-1, 0, 0)", x.rub(-1, 0, 0), -2);
        due("rub(0, 4096, 0)", x.rub(0, 4096, 0), -2);
        due("rub(0, -1, 0)", x.rub(0, -1, 0), -2);
        due("rub(0, 0, 2)", x.rub(0, 0, 2), -2);
        due("rub(0, 0, -1)", x.rub(0, 0, -1), -2);
        part(x, 3, 10);
        x.write(0, 9, 4095);
        x.rub(0, 4095, 0);
        part(x, 282429536481L, 1000000000000L);
        promise(27, "part");
        due("part(2)", x.part(2), -2);
        due("part(-1)", x.part(-1), -2);
        due("status(0)", x.status(0), 8);
    }

    private static void part(PressedPad x, long above, long below) {
        due("part(0)", x.part(0), above);
        due("part(1)", x.part(1), below);
    }

    private static void leastTorn() {
        promise(25, "torn");
        PressedPad x = new PressedPad();
        x.write(0, 3, 1);
        x.write(0, 1, 2);
        x.write(0, 9, 0);
        due("torn(0)", x.torn(0), 0);
        due("torn(1)", x.torn(1), 3);
        due("torn(2)", x.torn(2), 1);
        due("torn(4): no cells", x.torn(4), 0);
        due("torn(7)", x.torn(7), 3);
        x.write(5, 1, 4);
        due("dents all of them", x.torn(8), -1);
        due("torn(16)", x.torn(16), -2);
        due("torn(-1)", x.torn(-1), -2);
        x.tear();
        due("torn(1)", x.torn(1), 2);
        due("torn(2)", x.torn(2), 0);
        for (int s = 0; s < 3; s++) {
            x.tear();
        }
        due("all torn", x.torn(0), -1);
    }

    private static void draws() {
        promise(26, "drawn");
        PressedPad x = new PressedPad();
        // Seed 0: X is 12345, 1406932606, 654583775: by 65536 0, 21468, 9988: kind 0, press 4, cells 1796 (4 of them).
        x.pad(1);
        due("drawn(0, 0)", x.drawn(0, 0), 0);
        due("drawn(0, 1)", x.drawn(0, 1), 4 * Integer.bitCount(9988 % 4096));
        x.pad(3);
        due("at depth 2", x.drawn(0, 1), 2 * Integer.bitCount(9988 % 4096));
        x.write(1, 9, 1);
        due("the pad as it is", x.drawn(0, 0), 8);
        due("beside its dents", x.drawn(0, 1), 8 + 2 * Integer.bitCount(9988 % 4096));
        long before = x.digest();
        due("the last seed", x.drawn(999999, 0), 8);
        x.drawn(999999, 20);
        due("nothing is changed", x.digest(), before);
        drawnOn(4, 0, 3, 42);
        drawnOn(4, 1, 4, 29);
        drawnOn(4, 7, 6, 66);
        drawnOn(6, 12345, 7, 51);
        drawnOn(6, 999999, 20, 78);
        drawnOn(1, 5, 3, 65);
        drawnOn(6, 42, 2, 18);
        due("drawn(-1, 0)", x.drawn(-1, 0), -2);
        due("drawn(1000000, 0)", x.drawn(1000000, 0), -2);
        due("drawn(0, -1)", x.drawn(0, -1), -2);
        due("drawn(0, 21)", x.drawn(0, 21), -2);
        for (int s = 0; s < 3; s++) {
            x.tear();
        }
        due("all torn", x.drawn(0, 20), -1);
        due("BAD ahead of it", x.drawn(0, 21), -2);
    }

    /** What is due was worked out by a program of its own, in another language. */
    private static void drawnOn(int sheets, int seed, int n, int sum) {
        PressedPad x = new PressedPad();
        x.pad(sheets);
        due("drawn(" + seed + ", " + n + ") on " + sheets, x.drawn(seed, n), sum);
    }

    private static void images() {
        promise(28, "image");
        PressedPad x = new PressedPad();
        due("image(-1)", x.image(-1), -2);
        due("image(2)", x.image(2), -2);
        x.pad(5);
        x.carbons(3);
        x.write(0, 9, 1);
        x.word(7);
        long first = x.digest();
        due("image(0)", x.image(0), 1);
        x.tear();
        x.write(2, 9, 1);
        long second = x.digest();
        due("image(1)", x.image(1), 1);
        x.pad(1);
        promise(29, "from");
        due("from(0)", x.from(0), 1);
        due("digest", x.digest(), first);
        due("from(1)", x.from(1), 1);
        due("digest", x.digest(), second);
        due("undo() goes on", x.undo(), 1);
        due("undo() goes on", x.undo(), 1);
        due("digest", x.digest(), first);
        due("undo() goes on", x.undo(), 0);
        due("undo()", x.undo(), -3);
        x.type('a');
        x.rub(0, 0, 1);
        due("from(1)", x.from(1), 1);
        due("the text stays", x.count(6), 1);
        due("the fraction stays", x.part(0), 1);
        due("status stays", x.status(1), 1);
        due("from(2)", x.from(2), -2);
        due("from(-1)", x.from(-1), -2);
        PressedPad y = new PressedPad();
        y.image(1);
        due("none was kept", y.from(0), -3);
        due("status(1)", y.status(1), 1);
    }

    private static void statuses() {
        promise(30, "status");
        PressedPad x = new PressedPad();
        x.pad(0);
        x.of(9, 9);
        x.undo();
        for (int w = 0; w < 9; w++) {
            x.word(0);
        }
        due("status(0)", x.status(0), 2);
        due("status(1)", x.status(1), 1);
        due("status(2)", x.status(2), 1);
        due("status(3)", x.status(3), -1);
        due("status(-1)", x.status(-1), -1);
        due("counts as BAD", x.status(0), 4);
        x.orders(9);
        x.read();
        x.press(4, 2);
        due("other answers are not refusals", x.status(0) + x.status(1) + x.status(2), 6);
    }

    private static void counts() {
        promise(31, "count");
        PressedPad x = new PressedPad();
        x.pad(5);
        x.carbons(9);
        x.write(0, 1, 1);
        x.write(0, 1, 1);
        x.tear();
        x.word(1);
        x.type('a');
        x.type('b');
        int[] counts = {5, 1, 2, 1, 9, 3, 2};
        for (int what = 0; what <= 6; what++) {
            due("count(" + what + ")", x.count(what), counts[what]);
        }
        due("count(7)", x.count(7), -2);
        due("count(-1)", x.count(-1), -2);
    }

    private static void digests() {
        promise(32, "digest");
        PressedPad x = new PressedPad();
        x.pad(2);
        x.carbons(1);
        x.write(0, 3, 1);
        x.word(6);
        x.type('a');
        x.rub(0, 1, 1);
        long[] values = {
            2, 0, 1, 1, 1, 1, 1,
            1, 0, 3, 0, 0, 0, 0, 0, 0, 0, 0, 0, 0, 0,
            0, 1, 2, 0, 0, 0, 0, 0, 0, 0, 0, 0, 0, 0,
            0, 3, 1, 0, 6, 3, 10
        };
        long h = 919;
        for (long v : values) {
            h = 31 * h + v;
        }
        due("digest()", x.digest(), h);
        due("digest() again", x.digest(), h);
    }
}
