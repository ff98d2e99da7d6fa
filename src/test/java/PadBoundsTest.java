/** Terms, 1: each sentence on sheets, carbons, notes and kinds of pens that names a bound, with a test of its own. */
public final class PadBoundsTest {
    private static final Due DUE = new Due("PadBoundsTest");

    public static void main(String[] args) {
        sheetsOneToSix();
        fourAtFirst();
        zeroTheUppermost();
        cellsZeroToEleven();
        dentsZeroToNine();
        allNoneAtFirst();
        noCarbonsAtFirst();
        carbonBelowTheLast();
        carbonGoesWithItsSheet();
        tornOnesAreGone();
        depthIsHowManyLieAbove();
        tenNotesAtMost();
        notesAsTheyCome();
        pressOneToNine();
        cellsAsBits();
        inkOfTheUppermostAlone();
        dentsBecomeMoreOnly();
        copyByForceTwo();
        copyNeedsACarbonRightAbove();
        pencil();
        ball();
        nib();
        stylus();
        felt();
        tool();
        nineAtMostEach();
        whoLeavesInk();
        DUE.end();
    }

    private static PressedPad padOf(int n) {
        PressedPad x = new PressedPad();
        x.pad(n);
        return x;
    }

    private static void sheetsOneToSix() {
        DUE.sentence("A PAD has SHEETS 0 .. n less 1 (n 1 .. 6)");
        PressedPad x = new PressedPad();
        DUE.is("pad(0)", x.pad(0), -2);
        DUE.is("pad(7)", x.pad(7), -2);
        DUE.is("count(0)", x.count(0), 4);
        int before = 4;
        for (int n = 1; n <= 6; n++) {
            DUE.is("pad(" + n + ")", x.pad(n), before);
            DUE.is("count(0)", x.count(0), n);
            DUE.is("of(n less 1, 2)", x.of(n - 1, 2), n - 1);
            DUE.is("of(n, 2)", x.of(n, 2), -10);
            DUE.is("of(-1, 2)", x.of(-1, 2), -10);
            before = n;
        }
    }

    private static void fourAtFirst() {
        DUE.sentence("4 at first");
        PressedPad x = new PressedPad();
        DUE.is("count(0)", x.count(0), 4);
        DUE.is("of(3, 2)", x.of(3, 2), 3);
        DUE.is("of(4, 2)", x.of(4, 2), -10);
    }

    private static void zeroTheUppermost() {
        DUE.sentence("0 the uppermost at first");
        PressedPad x = padOf(6);
        DUE.is("of(0, 2)", x.of(0, 2), 0);
        x.write(0, 1, 1);
        DUE.is("about(0, 3)", x.about(0, 3), 0);
        DUE.is("tear()", x.tear(), 0);
    }

    private static void cellsZeroToEleven() {
        DUE.sentence("each has CELLS 0 .. 11");
        PressedPad x = new PressedPad();
        x.write(0, 3, 1 | 1 << 11);
        for (int c = 0; c <= 11; c++) {
            DUE.is("dent(0, " + c + ")", x.dent(0, c), c == 0 || c == 11 ? 3 : 0);
        }
        DUE.is("dent(0, -1)", x.dent(0, -1), -2);
        DUE.is("dent(0, 12)", x.dent(0, 12), -2);
        DUE.is("dent(1, -1): no cell of the sheet above", x.dent(1, -1), -2);
        DUE.is("dent(3, 12)", x.dent(3, 12), -2);
    }

    private static void dentsZeroToNine() {
        DUE.sentence("a DENT in each CELL (0 .. 9)");
        PressedPad x = padOf(6);
        int[] kinds = {0, 1, 3, 5};
        for (int kind : kinds) {
            x.write(kind, 9, 4095);
        }
        int[] most = {9, 9, 9, 9, 8, 8};
        for (int s = 0; s < 6; s++) {
            for (int c = 0; c < 12; c++) {
                DUE.is("dent(" + s + ", " + c + ")", x.dent(s, c), most[s]);
            }
        }
        DUE.is("shown(0, 9)", x.shown(0, 9), 4095);
        x.pad(6);
        x.write(0, 1, 4095);
        DUE.is("dent(1, 0): the least is 0, not below", x.dent(1, 0), 0);
        DUE.is("dent(5, 11)", x.dent(5, 11), 0);
    }

    private static void allNoneAtFirst() {
        DUE.sentence("INK, COPY, a DENT in each CELL, all none at first");
        for (int n = 0; n <= 6; n++) {
            PressedPad x = n == 0 ? new PressedPad() : padOf(n);
            for (int s = 0; s < x.count(0); s++) {
                DUE.is("ink", x.of(s, 0), 0);
                DUE.is("copy", x.of(s, 1), 0);
                DUE.is("notes", x.of(s, 3), 0);
                DUE.is("whose", x.whose(s), 0);
                for (int c = 0; c < 12; c++) {
                    DUE.is("dent", x.dent(s, c), 0);
                }
            }
        }
    }

    private static void noCarbonsAtFirst() {
        DUE.sentence("CARBONS (none at first)");
        PressedPad x = new PressedPad();
        DUE.is("count(4)", x.count(4), 0);
        x.write(5, 9, 4095);
        for (int s = 0; s < 4; s++) {
            DUE.is("of(" + s + ", 1)", x.of(s, 1), 0);
        }
        DUE.is("carbons(0)", x.carbons(0), 0);
    }

    private static void carbonBelowTheLast() {
        DUE.sentence("below the last one it copies nothing");
        for (int n = 1; n <= 6; n++) {
            PressedPad x = padOf(n);
            DUE.is("carbons", x.carbons(1 << n - 1), 0);
            x.write(5, 9, 4095);
            for (int s = 0; s < n; s++) {
                DUE.is("copy of " + s + " of " + n, x.of(s, 1), 0);
            }
            DUE.is("a carbon more", x.carbons(1 << n), -2);
        }
    }

    private static void carbonGoesWithItsSheet() {
        DUE.sentence("a carbon lies, that goes with it");
        PressedPad x = padOf(3);
        x.carbons(3);
        x.tear();
        x.write(0, 9, 5);
        DUE.is("copy of 1: nothing lies above it", x.of(1, 1), 0);
        DUE.is("copy of 2", x.of(2, 1), 5);
        x.tear();
        x.write(0, 9, 8);
        DUE.is("copy of 2: the carbon is gone", x.of(2, 1), 5);
        x.undo();
        x.undo();
        x.write(0, 9, 16);
        DUE.is("copy of 2: back with its sheet", x.of(2, 1), 21);
    }

    private static void tornOnesAreGone() {
        DUE.sentence("TORN ones are gone from the pad (none at first)");
        PressedPad x = padOf(2);
        DUE.is("count(1)", x.count(1), 0);
        x.carbons(3);
        x.tear();
        DUE.is("count(1)", x.count(1), 1);
        x.write(0, 9, 4095);
        DUE.is("ink", x.of(0, 0), 0);
        DUE.is("copy", x.of(0, 1), 0);
        DUE.is("dents", x.shown(0, 1), 0);
        DUE.is("whose", x.whose(0), 0);
        x.tear();
        DUE.is("count(1)", x.count(1), 2);
        DUE.is("tear()", x.tear(), -3);
        DUE.is("count(1)", x.count(1), 2);
    }

    private static void depthIsHowManyLieAbove() {
        DUE.sentence("DEPTH of a SHEET that is not TORN: how many lie above it");
        PressedPad x = padOf(6);
        for (int torn = 0; torn <= 6; torn++) {
            for (int s = 0; s < 6; s++) {
                DUE.is("of(" + s + ", 2), " + torn + " torn", x.of(s, 2), s < torn ? -1 : s - torn);
            }
            x.tear();
        }
    }

    private static void tenNotesAtMost() {
        DUE.sentence("A NOTE (10 at most, as they come)");
        PressedPad x = new PressedPad();
        for (int k = 0; k < 10; k++) {
            DUE.is("count(2)", x.count(2), k);
            DUE.is("write", x.write(0, 1, k), k);
        }
        DUE.is("the 11th", x.write(0, 1, 4095), -4);
        DUE.is("count(2)", x.count(2), 10);
        DUE.is("ink", x.of(0, 0), 15);
        DUE.is("about(9, 2)", x.about(9, 2), 9);
        DUE.is("about(10, 2)", x.about(10, 2), -2);
        x.tear();
        DUE.is("on another sheet, too", x.write(0, 1, 1), -4);
        x.undo();
        x.undo();
        DUE.is("one undone, one more", x.write(0, 1, 77), 9);
        DUE.is("about(9, 2)", x.about(9, 2), 77);
    }

    private static void notesAsTheyCome() {
        DUE.sentence("A NOTE (as they come): a KIND, a PRESS, CELLS");
        PressedPad x = new PressedPad();
        for (int k = 0; k < 10; k++) {
            x.write(k % 6, 1 + k % 9, 4095 - k);
            if (k % 3 == 2) {
                x.tear();
            }
        }
        for (int k = 0; k < 10; k++) {
            DUE.is("kind", x.about(k, 0), k % 6);
            DUE.is("press", x.about(k, 1), 1 + k % 9);
            DUE.is("cells", x.about(k, 2), 4095 - k);
            DUE.is("sheet", x.about(k, 3), k / 3);
        }
        DUE.is("of(3, 3)", x.of(3, 3), 512);
        DUE.is("of(0, 3)", x.of(0, 3), 7);
    }

    private static void pressOneToNine() {
        DUE.sentence("a PRESS (1 .. 9)");
        PressedPad x = new PressedPad();
        DUE.is("press 0", x.write(0, 0, 1), -2);
        DUE.is("press 10", x.write(0, 10, 1), -2);
        DUE.is("press 1", x.write(0, 1, 1), 0);
        DUE.is("press 9", x.write(0, 9, 2), 1);
        DUE.is("dent", x.dent(0, 0), 1);
        DUE.is("dent", x.dent(0, 1), 9);
    }

    private static void cellsAsBits() {
        DUE.sentence("CELLS (bits, 0 .. 4095)");
        PressedPad x = new PressedPad();
        DUE.is("cells -1", x.write(0, 9, -1), -2);
        DUE.is("cells 4096", x.write(0, 9, 4096), -2);
        DUE.is("no cells", x.write(0, 9, 0), 0);
        DUE.is("ink", x.of(0, 0), 0);
        DUE.is("dents", x.shown(0, 1), 0);
        DUE.is("of(0, 3): it is a note", x.of(0, 3), 1);
        DUE.is("all cells", x.write(0, 9, 4095), 1);
        DUE.is("ink", x.of(0, 0), 4095);
        DUE.is("dents", x.shown(3, 6), 4095);
        DUE.is("dents", x.shown(3, 7), 0);
    }

    private static void inkOfTheUppermostAlone() {
        DUE.sentence("by a KIND that leaves INK its CELLS come to INK of that");
        PressedPad x = padOf(3);
        x.write(0, 9, 3);
        x.write(0, 1, 6);
        DUE.is("they come together", x.of(0, 0), 7);
        DUE.is("ink of 1", x.of(1, 0), 0);
        x.tear();
        x.write(4, 1, 8);
        DUE.is("a felt of force 0 leaves ink", x.of(1, 0), 8);
        DUE.is("force 0", x.about(2, 4), 0);
        DUE.is("ink of 0", x.of(0, 0), 7);
        DUE.is("ink of 2", x.of(2, 0), 0);
    }

    private static void dentsBecomeMoreOnly() {
        DUE.sentence("in CELLS of the NOTE DENTS become f, if that is more");
        PressedPad x = padOf(1);
        x.write(0, 5, 1);
        x.write(0, 4, 1);
        DUE.is("one less", x.dent(0, 0), 5);
        x.write(0, 5, 1);
        DUE.is("as much", x.dent(0, 0), 5);
        x.write(0, 6, 1);
        DUE.is("one more", x.dent(0, 0), 6);
        DUE.is("the cell beside it", x.dent(0, 1), 0);
    }

    private static void copyByForceTwo() {
        DUE.sentence("If a carbon lies above a SHEET, and f is 2 or more, CELLS come to its COPY");
        PressedPad x = padOf(6);
        x.carbons(31);
        for (int press = 1; press <= 9; press++) {
            x.write(0, press, 1 << press);
        }
        for (int s = 1; s <= 5; s++) {
            int copied = 0;
            for (int press = s + 2; press <= 9; press++) {
                copied |= 1 << press;
            }
            DUE.is("copy at depth " + s, x.of(s, 1), copied);
        }
        DUE.is("copy of the uppermost", x.of(0, 1), 0);
    }

    private static void copyNeedsACarbonRightAbove() {
        DUE.sentence("If a carbon lies above a SHEET (right below the one above it)");
        for (int under = 0; under < 5; under++) {
            PressedPad x = padOf(6);
            x.carbons(1 << under);
            x.write(5, 9, 4095);
            for (int s = 0; s < 6; s++) {
                DUE.is("a carbon below " + under + ", copy of " + s, x.of(s, 1), s == under + 1 ? 4095 : 0);
            }
            x.carbons(0);
            x.write(5, 9, 4095);
            DUE.is("the copy stays", x.of(under + 1, 1), 4095);
        }
    }

    private static void forces(int kind, int press, int... due) {
        PressedPad x = new PressedPad();
        for (int d = 0; d <= 5; d++) {
            DUE.is("force(" + kind + ", " + press + ", " + d + ")", x.force(kind, press, d), due[d]);
        }
    }

    private static void pencil() {
        DUE.sentence("0 PENCIL: p less d, 0 at least");
        forces(0, 1, 1, 0, 0, 0, 0, 0);
        forces(0, 4, 4, 3, 2, 1, 0, 0);
        forces(0, 6, 6, 5, 4, 3, 2, 1);
        forces(0, 9, 9, 8, 7, 6, 5, 4);
    }

    private static void ball() {
        DUE.sentence("1 BALL: as PENCIL of a PRESS 1 more");
        forces(1, 1, 2, 1, 0, 0, 0, 0);
        forces(1, 4, 5, 4, 3, 2, 1, 0);
        forces(1, 8, 9, 8, 7, 6, 5, 4);
        forces(1, 9, 9, 9, 8, 7, 6, 5);
    }

    private static void nib() {
        DUE.sentence("2 NIB: half of PENCIL (cut)");
        forces(2, 1, 0, 0, 0, 0, 0, 0);
        forces(2, 2, 1, 0, 0, 0, 0, 0);
        forces(2, 3, 1, 1, 0, 0, 0, 0);
        forces(2, 8, 4, 3, 3, 2, 2, 1);
        forces(2, 9, 4, 4, 3, 3, 2, 2);
    }

    private static void stylus() {
        DUE.sentence("3 STYLUS: as BALL");
        forces(3, 1, 2, 1, 0, 0, 0, 0);
        forces(3, 8, 9, 8, 7, 6, 5, 4);
        forces(3, 9, 9, 9, 8, 7, 6, 5);
    }

    private static void felt() {
        DUE.sentence("4 FELT: as NIB at DEPTHS 0, 1, else 0");
        forces(4, 1, 0, 0, 0, 0, 0, 0);
        forces(4, 3, 1, 1, 0, 0, 0, 0);
        forces(4, 8, 4, 3, 0, 0, 0, 0);
        forces(4, 9, 4, 4, 0, 0, 0, 0);
    }

    private static void tool() {
        DUE.sentence("5 TOOL: as STYLUS at half of d (cut)");
        forces(5, 1, 2, 2, 1, 1, 0, 0);
        forces(5, 7, 8, 8, 7, 7, 6, 6);
        forces(5, 8, 9, 9, 8, 8, 7, 7);
        forces(5, 9, 9, 9, 9, 9, 8, 8);
    }

    private static void nineAtMostEach() {
        DUE.sentence("9 at most, each");
        PressedPad x = new PressedPad();
        int[] most = {9, 9, 4, 9, 4, 9};
        for (int kind = 0; kind < 6; kind++) {
            DUE.is("force(" + kind + ", 9, 0)", x.force(kind, 9, 0), most[kind]);
            x.write(kind, 9, 1 << kind);
            DUE.is("about(" + kind + ", 4)", x.about(kind, 4), most[kind]);
            DUE.is("dent(0, " + kind + ")", x.dent(0, kind), most[kind]);
        }
    }

    private static void whoLeavesInk() {
        DUE.sentence("whether there is INK");
        int[] inks = {1, 1, 1, 0, 1, 0};
        for (int kind = 0; kind < 6; kind++) {
            PressedPad x = new PressedPad();
            x.write(kind, 9, 6);
            DUE.is("about(0, 5) of kind " + kind, x.about(0, 5), inks[kind]);
            DUE.is("ink by kind " + kind, x.of(0, 0), 6 * inks[kind]);
            DUE.is("dents by kind " + kind, x.shown(0, 1), 6);
        }
    }
}
