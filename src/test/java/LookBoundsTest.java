/** Terms, 2: each sentence on what is to be seen, lost, copied, rubbed and drawn that names a bound. */
public final class LookBoundsTest {
    private static final Due DUE = new Due("LookBoundsTest");

    public static void main(String[] args) {
        whoseByForceOne();
        ownNoOtherDid();
        shownOneToNine();
        lostDepthZeroToFive();
        mustJustTheForce();
        mayTheForceOrMore();
        noneByForceZero();
        noneByAnotherDent();
        fitsFromNoneToAll();
        wordsZeroToSeven();
        wordsBetweenMustAndMay();
        penOneCellAtLeast();
        penPairs();
        ordersFromOneToAll();
        ordersOfTornSheets();
        ordersNotSoMany();
        pressForACopy();
        carbonsFewestMore();
        carbonsNotOnTheUppermost();
        carbonsForceTooLittle();
        rubByDentsOfTen();
        rubJustThose();
        rubAllOfThose();
        leastTorn();
        drawnSeeds();
        drawnNotes();
        drawnTearsIfAnotherIsLeft();
        drawnWithoutEnd();
        drawnFromThePadAsItIs();
        drawnNone();
        DUE.end();
    }

    private static PressedPad padOf(int n) {
        PressedPad x = new PressedPad();
        x.pad(n);
        return x;
    }

    private static void whoseByForceOne() {
        DUE.sentence("WHOSE: NOTES by which a SHEET was dented (FORCE 1 or more in some CELL of it)");
        PressedPad x = padOf(6);
        DUE.is("no notes", x.whose(0), 0);
        for (int press = 1; press <= 6; press++) {
            x.write(0, press, 2048);
        }
        int[] due = {63, 62, 60, 56, 48, 32};
        for (int s = 0; s < 6; s++) {
            DUE.is("whose(" + s + ")", x.whose(s), due[s]);
        }
        x.write(0, 9, 0);
        DUE.is("without cells", x.whose(0), 63);
        x.write(2, 1, 4095);
        DUE.is("of force 0 where it was written", x.whose(0), 63);
        x.write(5, 9, 1);
        x.write(0, 1, 1);
        DUE.is("the 10th, below a stronger one", x.whose(0), 63 | 256 | 512);
    }

    private static void ownNoOtherDid() {
        DUE.sentence("OWN of a NOTE on a SHEET: CELLS in which it dented that, no other NOTE did");
        PressedPad x = padOf(3);
        x.write(0, 9, 4095);
        DUE.is("alone: all", x.own(0, 0), 4095);
        x.write(0, 1, 3);
        DUE.is("a lesser one takes it, too", x.own(0, 0), 4092);
        DUE.is("and has none of its own", x.own(1, 0), 0);
        DUE.is("of force 0 below", x.own(0, 1), 4095);
        DUE.is("of force 0 below, its own", x.own(1, 1), 0);
        x.write(0, 9, 0);
        DUE.is("without cells", x.own(2, 0), 0);
        x.tear();
        x.write(0, 1, 2048);
        DUE.is("behind a tear, the torn one", x.own(3, 0), 0);
        DUE.is("behind a tear, the torn one", x.own(0, 0), 4092);
        DUE.is("behind a tear, the next", x.own(0, 1), 2047);
        DUE.is("behind a tear, the last", x.own(0, 2), 4095);
    }

    private static void shownOneToNine() {
        DUE.sentence("SHOWN: CELLS of a SHEET with DENTS q (1 .. 9) or more");
        PressedPad x = padOf(1);
        for (int press = 1; press <= 9; press++) {
            x.write(0, press, 1 << press);
        }
        for (int q = 1; q <= 9; q++) {
            DUE.is("shown(0, " + q + ")", x.shown(0, q), 1024 - (1 << q));
        }
        DUE.is("shown(0, 0)", x.shown(0, 0), -2);
        DUE.is("shown(0, 10)", x.shown(0, 10), -2);
    }

    private static void lostDepthZeroToFive() {
        DUE.sentence("A NOTE is LOST: at a DEPTH d (0 .. 5)");
        PressedPad x = padOf(1);
        x.write(0, 4, 5);
        for (int d = 0; d <= 5; d++) {
            DUE.is("just as strong at " + d, x.lost(0, 0, 0, 4 + d, d, 0), 5);
            if (d > 0) {
                DUE.is("one less at " + d, x.lost(0, 0, 0, 3 + d, d, 0), -1);
            }
        }
        DUE.is("depth -1", x.lost(0, 0, 0, 4, -1, 0), -10);
        DUE.is("depth 6", x.lost(0, 0, 0, 9, 6, 0), -10);
    }

    /** Dents 7, 4, 4, 0 in cells 0 to 3; a lost note of force 4 wrote cell 1, maybe 0; note 2 cell 2. */
    private static PressedPad threeNotes() {
        PressedPad x = padOf(1);
        x.write(0, 7, 1);
        x.write(0, 4, 2);
        x.write(0, 4, 4);
        return x;
    }

    private static void mustJustTheForce() {
        DUE.sentence("MUST: CELLS whose DENT is more than is explained, just the FORCE");
        PressedPad x = threeNotes();
        DUE.is("one known", x.lost(0, 1, 0, 4, 0, 0), 6);
        DUE.is("two known", x.lost(0, 5, 0, 4, 0, 0), 2);
        DUE.is("all known", x.lost(0, 7, 0, 4, 0, 0), 0);
        DUE.is("the strong one lost", x.lost(0, 6, 0, 7, 0, 0), 1);
        x.write(0, 3, 2);
        DUE.is("explained in part: 3 of 4", x.lost(0, 13, 0, 4, 0, 0), 2);
        DUE.is("explained in part: 3 of 4, a force of 1", x.lost(0, 13, 0, 1, 0, 0), -1);
    }

    private static void mayTheForceOrMore() {
        DUE.sentence("MAY: those, and all in which what is explained is the FORCE or more");
        PressedPad x = threeNotes();
        DUE.is("a force of 3", x.lost(0, 7, 0, 3, 0, 1), 7);
        DUE.is("a force of 4: as much", x.lost(0, 7, 0, 4, 0, 1), 7);
        DUE.is("a force of 5: one too little", x.lost(0, 7, 0, 5, 0, 1), 1);
        DUE.is("a force of 7", x.lost(0, 7, 0, 7, 0, 1), 1);
        DUE.is("a force of 8", x.lost(0, 7, 0, 8, 0, 1), 0);
        DUE.is("those that must be, and the strong one", x.lost(0, 1, 0, 4, 0, 1), 7);
        DUE.is("those that must be alone", x.lost(0, 6, 0, 7, 0, 1), 1);
    }

    private static void noneByForceZero() {
        DUE.sentence("None: the FORCE is 0");
        PressedPad x = padOf(1);
        int[] answers = {-1, -1, 0, 0};
        x.word(0);
        for (int what = 0; what < 4; what++) {
            DUE.is("pencil 1 at 1", x.lost(0, 0, 0, 1, 1, what), answers[what]);
            DUE.is("felt 9 at 2", x.lost(0, 0, 4, 9, 2, what), answers[what]);
            DUE.is("nib 1 at 0", x.lost(0, 0, 2, 1, 0, what), answers[what]);
        }
        int[] some = {0, 0, 1, 1};
        for (int what = 0; what < 4; what++) {
            DUE.is("pencil 1 at 0", x.lost(0, 0, 0, 1, 0, what), some[what]);
            DUE.is("pencil 2 at 1", x.lost(0, 0, 0, 2, 1, what), some[what]);
            DUE.is("nib 2 at 0", x.lost(0, 0, 2, 2, 0, what), some[what]);
        }
    }

    private static void noneByAnotherDent() {
        DUE.sentence("None: a CELL's DENT is neither explained nor just the FORCE");
        PressedPad x = threeNotes();
        x.word(1);
        int[] answers = {-1, -1, 0, 0};
        for (int what = 0; what < 4; what++) {
            DUE.is("one more than the dent", x.lost(0, 6, 0, 8, 0, what), answers[what]);
            DUE.is("one less than the dent", x.lost(0, 6, 0, 6, 0, what), answers[what]);
            DUE.is("two dents that differ", x.lost(0, 4, 0, 7, 0, what), answers[what]);
        }
        int[] some = {1, 1, 1, 1};
        for (int what = 0; what < 4; what++) {
            DUE.is("just the dent", x.lost(0, 6, 0, 7, 0, what), some[what]);
        }
        x = padOf(1);
        x.write(0, 5, 2048);
        DUE.is("the last cell alone", x.lost(0, 0, 0, 4, 0, 0), -1);
        DUE.is("the last cell alone", x.lost(0, 0, 0, 5, 0, 0), 2048);
    }

    private static void fitsFromNoneToAll() {
        DUE.sentence("FITS: how many sets of CELLS (0: none)");
        PressedPad x = padOf(1);
        DUE.is("the empty one alone", x.lost(0, 0, 0, 9, 0, 2), 1);
        x.write(0, 5, 0b111);
        for (int cells = 0; cells <= 12; cells++) {
            x.pad(1);
            x.write(0, 5, (1 << cells) - 1);
            DUE.is(cells + " that may be", x.lost(0, 1, 0, 5, 0, 2), 1 << cells);
            DUE.is(cells + " that must be", x.lost(0, 0, 0, 5, 0, 2), 1);
            DUE.is("none", x.lost(0, 0, 0, 4, 0, 2), cells == 0 ? 1 : 0);
        }
    }

    private static void wordsZeroToSeven() {
        DUE.sentence("WORDS 0 .. 7, as they come: those that fit (bits)");
        PressedPad x = padOf(1);
        x.write(0, 5, 4095);
        DUE.is("no words", x.lost(0, 1, 0, 5, 0, 3), 0);
        for (int w = 0; w < 8; w++) {
            DUE.is("word", x.word(w == 0 ? 0 : w == 7 ? 4095 : 1 << w), w);
            DUE.is("all fit", x.lost(0, 1, 0, 5, 0, 3), (1 << w + 1) - 1);
        }
        DUE.is("a 9th", x.word(1), -4);
        DUE.is("only the last is all that must be", x.lost(0, 0, 0, 5, 0, 3), 128);
        DUE.is("only the first is empty", x.lost(0, 1, 0, 6, 0, 3), 1);
        DUE.is("forget()", x.forget(), 8);
        DUE.is("none again", x.lost(0, 1, 0, 5, 0, 3), 0);
        DUE.is("from 0 again", x.word(4095), 0);
        DUE.is("it fits", x.lost(0, 0, 0, 5, 0, 3), 1);
    }

    private static void wordsBetweenMustAndMay() {
        DUE.sentence("all of MUST, none beyond MAY");
        PressedPad x = threeNotes();
        // Note 0 known, the force 4: cells 1 and 2 must be, cell 0 may be, cell 3 may not.
        x.word(0b0110);
        x.word(0b0111);
        x.word(0b0010);
        x.word(0b0100);
        x.word(0b1110);
        x.word(0b1111);
        x.word(0);
        x.word(0b0001);
        DUE.is("words", x.lost(0, 1, 0, 4, 0, 3), 3);
    }

    private static void penOneCellAtLeast() {
        DUE.sentence("just told CELLS (bits, one at least)");
        PressedPad x = padOf(1);
        DUE.is("no cells", x.pen(0, 0, 0, 0, 0), -10);
        DUE.is("no cells", x.pen(0, 0, 0, 0, 1), -10);
        DUE.is("the first cell", x.pen(0, 0, 0, 1, 0), 0);
        DUE.is("all cells", x.pen(0, 0, 0, 4095, 0), 0);
        DUE.is("one more", x.pen(0, 0, 0, 4096, 0), -10);
        x.write(0, 9, 2048);
        DUE.is("the last cell: pencil 9, ball, stylus, tool 8, 9", x.pen(0, 0, 0, 2048, 0), 7);
        x.write(0, 9, 4095);
        DUE.is("all cells", x.pen(0, 0, 0, 4095, 0), 7);
    }

    private static void penPairs() {
        DUE.sentence("PEN: how many; the first (10 the KIND and the PRESS); none");
        PressedPad x = padOf(1);
        x.write(0, 1, 1);
        // A force of 1 at depth 0: pencil 1, nib 2 and 3, felt 2 and 3.
        DUE.is("how many", x.pen(0, 0, 0, 1, 0), 5);
        DUE.is("the first", x.pen(0, 0, 0, 1, 1), 1);
        // At depth 5: pencil 6, ball 5, nib 7 and 8, stylus 5, tool 2.
        DUE.is("how many at 5", x.pen(0, 0, 5, 1, 0), 6);
        DUE.is("the first at 5", x.pen(0, 0, 5, 1, 1), 6);
        // At depth 4, a force of 9 is beyond all; of 8: tool 9.
        x.write(0, 8, 1);
        DUE.is("the last pair of all", x.pen(0, 0, 4, 1, 1), 59);
        DUE.is("alone", x.pen(0, 0, 4, 1, 0), 1);
        x.write(0, 9, 1);
        DUE.is("none", x.pen(0, 0, 4, 1, 0), 0);
        DUE.is("none", x.pen(0, 0, 4, 1, 1), -1);
        // All known and a dent of 9: each pair of force 1 or more; at depth 0 all but nib 1 and felt 1.
        DUE.is("the most", x.pen(0, 7, 0, 1, 0), 52);
    }

    private static void ordersFromOneToAll() {
        DUE.sentence("ORDERS: rows of all SHEETS: how many");
        int[] all = {1, 1, 2, 6, 24, 120, 720};
        for (int n = 1; n <= 6; n++) {
            PressedPad x = padOf(n);
            DUE.is("nothing is dented on " + n, x.orders(-1), all[n]);
            for (int i = 0; i < n; i++) {
                DUE.is("orders(" + i + ")", x.orders(i), i);
            }
            x.write(0, 9, 1);
            DUE.is("all dents differ on " + n, x.orders(-1), 1);
            x.undo();
            x.write(0, 1, 1);
            DUE.is("one that dents itself alone on " + n, x.orders(-1), all[n]);
            x.undo();
            x.write(0, 9, 0);
            DUE.is("a note without cells on " + n, x.orders(-1), all[n]);
        }
        PressedPad x = padOf(6);
        x.write(1, 9, 1);
        // Dents 9 9 8 7 6 5: the sheet written on lies first, each other one has its own depth.
        DUE.is("the note is on sheet 0", x.orders(-1), 1);
        x.pad(6);
        x.write(5, 9, 1);
        // Dents 9 9 9 9 8 8: the three below in any row, the last two, too.
        DUE.is("equal ones change places", x.orders(-1), 12);
        x.pad(6);
        x.write(0, 2, 1);
        x.write(0, 2, 2);
        // Two notes of one force in two cells are as one note in both.
        DUE.is("as strong as one another", x.orders(-1), 120);
        x.pad(6);
        x.write(4, 9, 1);
        // Dents 4 4 0 0 0 0: sheet 1 right behind sheet 0 (5 places), the others in any row (24).
        DUE.is("a pair among four", x.orders(-1), 120);
    }

    private static void ordersOfTornSheets() {
        DUE.sentence("those ahead of it in the row were TORN by then, those behind it lay below it in that row");
        PressedPad x = padOf(2);
        x.tear();
        x.write(0, 9, 1);
        // Were sheet 1 the first, sheet 0 would have lain below it and have a dent of 8.
        DUE.is("sheet 0 has none, so it was torn", x.orders(-1), 1);
        x.undo();
        x.write(0, 1, 1);
        DUE.is("a force that does not reach it", x.orders(-1), 2);
        x.tear();
        DUE.is("all are torn", x.orders(-1), 2);
        DUE.is("orders(0)", x.orders(0), 0);
        x.pad(3);
        x.write(0, 2, 1);
        x.tear();
        x.write(0, 2, 2);
        x.tear();
        x.write(0, 2, 4);
        // Each has just the dents of itself and of the one right ahead; sheet 2 is ahead of none.
        DUE.is("a chain", x.orders(-1), 1);
    }

    private static void ordersNotSoMany() {
        DUE.sentence("the i-th of the first; -5: not so many SHEETS");
        for (int n = 1; n <= 6; n++) {
            PressedPad x = padOf(n);
            DUE.is("orders(n less 1)", x.orders(n - 1), n - 1);
            DUE.is("orders(n)", x.orders(n), -5);
            DUE.is("orders(n + 1)", x.orders(n + 1), -5);
            DUE.is("orders(-2)", x.orders(-2), -10);
            DUE.is("status(0)", x.status(0), 1);
            x.tear();
            DUE.is("torn ones are of the row, too", x.orders(n - 1), n - 1);
        }
    }

    private static void pressForACopy() {
        DUE.sentence("PRESS for a COPY at DEPTH d (1 .. 5) by a KIND: the least; none");
        for (int kind = 0; kind < 6; kind++) {
            PressedPad x = padOf(6);
            x.carbons(31);
            DUE.is("depth 0", x.press(kind, 0), -2);
            DUE.is("depth 6", x.press(kind, 6), -2);
            for (int d = 1; d <= 5; d++) {
                int least = x.press(kind, d);
                if (least == -1) {
                    DUE.holds(kind == 4 && d > 1, "only felt does not copy, from depth 2 on");
                    x.write(kind, 9, 4095);
                    DUE.is("no copy at " + d, x.of(d, 1), 0);
                } else {
                    copiesFromOn(kind, d, least);
                }
            }
        }
    }

    private static void copiesFromOn(int kind, int depth, int least) {
        for (int press = 1; press <= 9; press++) {
            PressedPad x = padOf(6);
            x.carbons(31);
            x.write(kind, press, 1);
            DUE.is("kind " + kind + ", press " + press + " at " + depth, x.of(depth, 1), press >= least ? 1 : 0);
        }
    }

    private static void carbonsFewestMore() {
        DUE.sentence("CARBONS for SHEETS told: the fewest more: how many; which SHEETS they go below");
        PressedPad x = padOf(6);
        DUE.is("for none", x.copies(0, 0, 1, 0), 0);
        DUE.is("for none", x.copies(0, 0, 1, 1), 0);
        DUE.is("for the one below", x.copies(2, 5, 9, 1), 1);
        DUE.is("for the last", x.copies(32, 5, 9, 1), 16);
        DUE.is("for all", x.copies(62, 5, 9, 0), 5);
        DUE.is("for all", x.copies(62, 5, 9, 1), 31);
        x.carbons(16);
        DUE.is("one is there", x.copies(62, 5, 9, 0), 4);
        DUE.is("one is there", x.copies(62, 5, 9, 1), 15);
        x.carbons(63);
        DUE.is("all are there", x.copies(62, 5, 9, 0), 0);
        DUE.is("all are there", x.copies(62, 5, 9, 1), 0);
        x.carbons(32);
        DUE.is("one below the last helps none", x.copies(62, 5, 9, 0), 5);
        x.carbons(0);
        x.tear();
        DUE.is("for the one below the uppermost", x.copies(4, 5, 9, 1), 2);
        x.carbons(1);
        DUE.is("a carbon that went with its sheet helps none", x.copies(4, 5, 9, 0), 1);
        DUE.is("nothing is laid by asking", x.count(4), 1);
    }

    private static void carbonsNotOnTheUppermost() {
        DUE.sentence("the uppermost is not copied; none: it is the uppermost");
        PressedPad x = padOf(3);
        x.carbons(7);
        DUE.is("alone", x.copies(1, 5, 9, 0), -1);
        DUE.is("alone", x.copies(1, 5, 9, 1), -1);
        DUE.is("with others", x.copies(7, 5, 9, 0), -1);
        x.tear();
        DUE.is("the next", x.copies(2, 5, 9, 0), -1);
        DUE.is("the one below it", x.copies(4, 5, 9, 0), 0);
        x.tear();
        DUE.is("the last", x.copies(4, 5, 9, 0), -1);
        x.tear();
        DUE.is("none are told, all are torn", x.copies(0, 5, 9, 0), 0);
        DUE.is("one is told, all are torn", x.copies(4, 5, 9, 0), -10);
    }

    private static void carbonsForceTooLittle() {
        DUE.sentence("none: the FORCE is too little for one");
        PressedPad x = padOf(6);
        for (int s = 1; s <= 5; s++) {
            DUE.is("a force of 1", x.copies(1 << s, 0, s + 1, 0), -1);
            DUE.is("a force of 2", x.copies(1 << s, 0, s + 2, 0), 1);
            DUE.is("a force of 2", x.copies(1 << s, 0, s + 2, 1), 1 << s - 1);
        }
        DUE.is("enough for all but the last", x.copies(62, 0, 6, 0), -1);
        DUE.is("enough for all", x.copies(62, 0, 7, 0), 5);
        x.carbons(63);
        DUE.is("though carbons are there", x.copies(62, 0, 6, 0), -1);
    }

    private static void part(PressedPad x, String call, long above, long below) {
        DUE.is("part(0) of " + call, x.part(0), above);
        DUE.is("part(1) of " + call, x.part(1), below);
    }

    private static void rubByDentsOfTen() {
        DUE.sentence("RUB: each CELL of a SHEET is seen by its DENT of 10; lowest terms");
        long[][] due = {{0, 1}, {1, 10}, {1, 5}, {3, 10}, {2, 5}, {1, 2}, {3, 5}, {7, 10}, {4, 5}, {9, 10}};
        long[][] unseen = {{1, 1}, {9, 10}, {4, 5}, {7, 10}, {3, 5}, {1, 2}, {2, 5}, {3, 10}, {1, 5}, {1, 10}};
        for (int dent = 0; dent <= 9; dent++) {
            PressedPad x = padOf(1);
            if (dent > 0) {
                x.write(0, dent, 2048);
            }
            DUE.is("rub", x.rub(0, 2048, 0), 1);
            part(x, "a dent of " + dent, due[dent][0], due[dent][1]);
            DUE.is("rub", x.rub(0, 2048, 1), 1);
            part(x, "a dent of " + dent, due[dent][0], due[dent][1]);
            DUE.is("rub", x.rub(0, 0, 0), 1);
            part(x, "nothing of a dent of " + dent, unseen[dent][0], unseen[dent][1]);
            DUE.is("rub", x.rub(0, 0, 1), 1);
            part(x, "all of nothing", 1, 1);
        }
    }

    private static void rubJustThose() {
        DUE.sentence("the chance that just told CELLS (bits) are seen");
        PressedPad x = padOf(2);
        part(x, "the fraction at first", 0, 1);
        x.write(0, 9, 4095);
        x.rub(0, 4095, 0);
        part(x, "all twelve of 9", 282429536481L, 1000000000000L);
        x.rub(0, 0, 0);
        part(x, "none of twelve of 9", 1, 1000000000000L);
        x.rub(0, 1, 0);
        part(x, "one of twelve of 9", 9, 1000000000000L);
        x.rub(1, 2047, 0);
        // Eleven of 8 and one of 2 beside them: 8^11 2 by 10^12 is 4^11 by 5^12.
        part(x, "eleven of twelve of 8", 4194304, 244140625);
        x.pad(1);
        x.rub(0, 4095, 0);
        part(x, "no dents, all cells", 0, 1);
        x.rub(0, 0, 0);
        part(x, "no dents, no cells", 1, 1);
    }

    private static void rubAllOfThose() {
        DUE.sentence("that all of told ones are seen (others or not)");
        PressedPad x = padOf(1);
        x.write(0, 9, 4095);
        x.rub(0, 4095, 1);
        part(x, "all twelve of 9", 282429536481L, 1000000000000L);
        x.rub(0, 3, 1);
        part(x, "two of 9", 81, 100);
        x.rub(0, 0, 1);
        part(x, "none", 1, 1);
        x.pad(1);
        x.write(0, 5, 3);
        x.rub(0, 7, 1);
        part(x, "one of them has no dent", 0, 1);
        x.rub(0, 3, 1);
        part(x, "two of 5", 1, 4);
        x.tear();
        x.rub(0, 1, 1);
        part(x, "a torn sheet", 1, 2);
    }

    private static void leastTorn() {
        DUE.sentence("LEAST TORN: how many SHEETS more, until the uppermost one shows nothing of told NOTES; none");
        for (int n = 1; n <= 6; n++) {
            PressedPad x = padOf(n);
            DUE.is("no notes", x.torn(0), 0);
            for (int press = 1; press <= 6; press++) {
                x.write(0, press, 1);
            }
            for (int press = 1; press <= 6; press++) {
                int due = press < n ? press : -1;
                DUE.is("press " + press + " on " + n, x.torn(1 << press - 1), due);
                DUE.is("with all below it", x.torn((1 << press) - 1), due);
            }
            DUE.is("of none", x.torn(0), 0);
            DUE.is("bits beyond the notes", x.torn(64), -2);
        }
        PressedPad x = padOf(3);
        x.write(0, 9, 0);
        DUE.is("without cells", x.torn(1), 0);
        x.write(0, 2, 1);
        x.tear();
        DUE.is("one more", x.torn(2), 1);
        x.tear();
        DUE.is("no more", x.torn(2), 0);
        x.tear();
        DUE.is("all are torn", x.torn(2), -1);
        DUE.is("all are torn, of none", x.torn(0), -1);
    }

    /** What is due of drawn was worked out by a program of its own, in another language. */
    private static void drawn(int sheets, int seed, int... due) {
        PressedPad x = padOf(sheets);
        for (int n = 0; n < due.length; n++) {
            DUE.is("drawn(" + seed + ", " + n + ") on " + sheets, x.drawn(seed, n), due[n]);
        }
    }

    private static void drawnSeeds() {
        DUE.sentence("DRAWN by a SEED (0 .. 999999)");
        drawn(1, 0, 0, 16, 56, 72, 76, 76, 80, 80, 101);
        drawn(1, 999999, 0, 27, 81, 82, 82, 97, 104, 104, 104, 104, 105);
        drawn(1, 999998, 0, 0, 18, 41, 69, 69, 71, 74, 74, 76, 79);
        PressedPad x = new PressedPad();
        DUE.is("seed -1", x.drawn(-1, 0), -2);
        DUE.is("seed 1000000", x.drawn(1000000, 0), -2);
    }

    private static void drawnNotes() {
        DUE.sentence("n (0 .. 20) NOTES");
        drawn(6, 0, 0, 0, 18, 22, 22, 22, 26, 26, 61, 61, 61, 61, 61, 61, 62, 64, 93, 93, 93, 93, 93);
        drawn(6, 1, 0, 5, 5, 5, 10, 10, 51, 64, 64, 64, 65, 65, 65, 65, 65, 65, 65, 65, 65, 68, 91);
        drawn(4, 1, 0, 10, 10, 14, 29, 29, 65, 79, 79, 79, 80, 80, 80, 80, 80, 80, 80, 80, 80, 82, 98);
        PressedPad x = new PressedPad();
        DUE.is("n -1", x.drawn(0, -1), -2);
        DUE.is("n 21", x.drawn(0, 21), -2);
    }

    private static void drawnTearsIfAnotherIsLeft() {
        DUE.sentence("behind each third one the uppermost SHEET is TORN, if another one is left");
        drawn(1, 1, 0, 20, 35, 45, 55, 55, 82, 92, 92, 92, 92, 92, 92, 92, 92, 92, 92, 92, 92, 93, 103);
        drawn(2, 1, 0, 15, 25, 33, 51, 51, 80, 91, 91, 91, 91, 91, 91, 91, 91, 91, 91, 91, 91, 93, 103);
        drawn(3, 1, 0, 15, 20, 26, 41, 41, 77, 91, 91, 91, 91, 91, 91, 91, 91, 91, 91, 91, 91, 93, 103);
        drawn(2, 2, 0, 11, 28, 28, 45, 50, 50, 50);
        PressedPad x = padOf(4);
        x.tear();
        x.tear();
        int[] two = {0, 12, 36, 36, 67, 77, 77, 77, 80, 92, 92, 93, 93, 93, 93, 93, 93, 93, 99, 101, 101};
        for (int n = 0; n <= 20; n++) {
            DUE.is("two are torn, drawn(7, " + n + ")", x.drawn(7, n), two[n]);
        }
        x.tear();
        int[] one = {0, 18, 45, 45, 72, 81, 81, 81, 84, 94, 94, 95, 95, 95, 95, 95, 95, 95, 100, 102, 102};
        for (int n = 0; n <= 20; n++) {
            DUE.is("one is left, drawn(7, " + n + ")", x.drawn(7, n), one[n]);
        }
    }

    private static void drawnWithoutEnd() {
        DUE.sentence("a NOTE written (as if there were no end of them)");
        PressedPad x = padOf(1);
        for (int k = 0; k < 10; k++) {
            x.write(0, 1, 0);
        }
        DUE.is("write", x.write(0, 1, 0), -4);
        DUE.is("behind ten notes", x.drawn(0, 1), 16);
        DUE.is("twenty behind ten notes", x.drawn(0, 20), 107);
        DUE.is("none is kept", x.count(2), 10);
        DUE.is("status(2)", x.status(2), 1);
    }

    private static void drawnFromThePadAsItIs() {
        DUE.sentence("DENTS of the last SHEET, together");
        PressedPad x = padOf(2);
        x.write(0, 9, 4095);
        DUE.is("n 0: those that are there", x.drawn(5, 0), 96);
        DUE.is("the uppermost is not counted", x.shown(0, 9), 4095);
        x.pad(1);
        x.write(0, 9, 4095);
        DUE.is("the most", x.drawn(5, 20), 108);
        DUE.is("nothing is changed", x.count(1), 0);
    }

    private static void drawnNone() {
        DUE.sentence("none: all are TORN");
        for (int n = 1; n <= 6; n++) {
            PressedPad x = padOf(n);
            for (int s = 0; s < n; s++) {
                DUE.is("one is left, at least", x.drawn(0, 0), 0);
                x.tear();
            }
            DUE.is("all are torn", x.drawn(0, 0), -1);
            DUE.is("all are torn", x.drawn(999999, 20), -1);
            DUE.is("BAD is ahead of it", x.drawn(-1, 0), -2);
        }
    }
}
