import java.util.ArrayList;
import java.util.List;

/** What is kept: undo, images, words, the fraction, status, counts and the digest, at each bound the document names. */
public final class KeptBoundsTest {
    private static final Due DUE = new Due("KeptBoundsTest");

    public static void main(String[] args) {
        padAllAsAtFirst();
        padLeavesTheRest();
        carbonsWhatTheyWere();
        tearWhich();
        undoEightAtMost();
        undoOfNotesAndTears();
        undoNone();
        undoHowManyNotes();
        whatElseIsToldLeavesIt();
        undoBringsBackFullAndTorn();
        writingBehindUndo();
        wordsEightAtMost();
        forgetHowMany();
        clearHowMany();
        fractionAtFirst();
        refusedRubLeavesTheFraction();
        imagesZeroAndOne();
        imagesKeepAllBut();
        imagesKeepWhatMayBeUndone();
        imagesAreApart();
        fromNoneWasKept();
        statusAnotherWhat();
        statusOfRefusals();
        countsAtTheirMost();
        digestOfNone();
        digestOfTheMost();
        fiveHundredTwelveCalls();
        DUE.end();
    }

    private static PressedPad padOf(int n) {
        PressedPad x = new PressedPad();
        x.pad(n);
        return x;
    }

    private static void padAllAsAtFirst() {
        DUE.sentence("n SHEETS, all as at first");
        for (States state : States.values()) {
            for (int n = 1; n <= 6; n++) {
                PressedPad x = state.make();
                DUE.is("pad(" + n + ")", x.pad(n), state.sheets);
                int[] counts = {n, 0, 0, 0, 0, 0};
                for (int what = 0; what <= 5; what++) {
                    DUE.is("count(" + what + ") from " + state, x.count(what), counts[what]);
                }
                for (int s = 0; s < n; s++) {
                    DUE.is("ink", x.of(s, 0), 0);
                    DUE.is("copy", x.of(s, 1), 0);
                    DUE.is("depth", x.of(s, 2), s);
                    DUE.is("shown", x.shown(s, 1), 0);
                }
                DUE.is("nothing to undo", x.undo(), -3);
                DUE.is("the first note", x.write(0, 9, 1), 0);
                DUE.is("no carbon is there", x.of(n > 1 ? 1 : 0, 1), 0);
            }
        }
    }

    private static void padLeavesTheRest() {
        DUE.sentence("n SHEETS, all as at first: images, the text, the fraction and status are none of a pad's");
        PressedPad x = States.HALF_TORN.make();
        x.carbons(-1);
        long above = x.part(0);
        x.pad(1);
        DUE.is("bytes", x.count(6), 17);
        DUE.is("part(0)", x.part(0), above);
        DUE.is("status(0)", x.status(0), 1);
        DUE.is("from(1)", x.from(1), 1);
        DUE.is("count(0)", x.count(0), 5);
        DUE.is("count(2)", x.count(2), 1);
    }

    private static void carbonsWhatTheyWere() {
        DUE.sentence("CARBONS (bits): what they were");
        for (int n = 1; n <= 6; n++) {
            PressedPad x = padOf(n);
            int all = (1 << n) - 1;
            DUE.is("all", x.carbons(all), 0);
            DUE.is("one too many", x.carbons(all + 1), -2);
            DUE.is("below 0", x.carbons(-1), -2);
            DUE.is("none", x.carbons(0), all);
            DUE.is("the last", x.carbons(1 << n - 1), 0);
            DUE.is("count(4)", x.count(4), 1 << n - 1);
        }
        PressedPad x = padOf(1);
        x.tear();
        DUE.is("below a torn sheet", x.carbons(1), 0);
        DUE.is("it stays told", x.carbons(0), 1);
    }

    private static void tearWhich() {
        DUE.sentence("The uppermost SHEET is TORN off: which. NO: all are");
        for (int n = 1; n <= 6; n++) {
            PressedPad x = padOf(n);
            for (int s = 0; s < n; s++) {
                DUE.is("tear()", x.tear(), s);
            }
            DUE.is("tear()", x.tear(), -3);
            DUE.is("tear()", x.tear(), -3);
            DUE.is("count(1)", x.count(1), n);
            DUE.is("status(1)", x.status(1), 2);
            x.undo();
            DUE.is("the last again", x.tear(), n - 1);
        }
    }

    private static void undoEightAtMost() {
        DUE.sentence("UNDO (8 at most)");
        for (int written = 0; written <= 10; written++) {
            PressedPad x = new PressedPad();
            List<Long> digests = new ArrayList<>();
            for (int k = 0; k < written; k++) {
                digests.add(dents(x));
                x.write(0, 9, 1 << k);
            }
            int may = Math.min(8, written);
            DUE.is("count(5) behind " + written, x.count(5), may);
            for (int u = 1; u <= may; u++) {
                DUE.is("undo()", x.undo(), written - u);
                DUE.is("dents as ahead of it", dents(x), digests.get(written - u));
                DUE.is("count(5)", x.count(5), may - u);
            }
            DUE.is("undo() behind " + may, x.undo(), -3);
            DUE.is("count(2)", x.count(2), written - may);
        }
    }

    /** All that the sheets have, in one number. */
    private static long dents(PressedPad x) {
        long sum = x.count(1);
        for (int s = 0; s < x.count(0); s++) {
            sum = 31 * sum + x.of(s, 0);
            sum = 31 * sum + x.of(s, 1);
            for (int c = 0; c < 12; c++) {
                sum = 31 * sum + x.dent(s, c);
            }
        }
        return sum;
    }

    private static void undoOfNotesAndTears() {
        DUE.sentence("UNDO: as ahead of the last NOTE written, SHEET TORN");
        PressedPad x = padOf(6);
        x.carbons(31);
        List<Long> digests = new ArrayList<>();
        List<Integer> notes = new ArrayList<>();
        for (int k = 0; k < 11; k++) {
            digests.add(dents(x));
            notes.add(x.count(2));
            if (k % 2 == 0) {
                x.write(k % 6, 9, 4095 >> k);
            } else {
                x.tear();
            }
        }
        for (int k = 10; k >= 3; k--) {
            DUE.is("undo()", x.undo(), notes.get(k));
            DUE.is("sheets as ahead of it", dents(x), digests.get(k));
        }
        DUE.is("undo()", x.undo(), -3);
        DUE.is("count(1)", x.count(1), 1);
        DUE.is("count(2)", x.count(2), 2);
    }

    private static void undoNone() {
        DUE.sentence("NO: none may be");
        PressedPad x = new PressedPad();
        DUE.is("undo() at first", x.undo(), -3);
        x.write(0, 10, 1);
        x.carbons(3);
        x.word(1);
        x.rub(0, 1, 1);
        x.image(0);
        DUE.is("undo() behind other calls", x.undo(), -3);
        DUE.is("count(4)", x.count(4), 3);
        DUE.is("count(3)", x.count(3), 1);
        x.tear();
        DUE.is("undo()", x.undo(), 0);
        DUE.is("undo()", x.undo(), -3);
        DUE.is("status(1)", x.status(1), 3);
    }

    private static void undoHowManyNotes() {
        DUE.sentence("UNDO: how many NOTES there are then");
        PressedPad x = new PressedPad();
        x.write(0, 1, 1);
        DUE.is("none", x.undo(), 0);
        for (int k = 0; k < 10; k++) {
            x.write(0, 1, 1);
        }
        x.tear();
        DUE.is("a tear: all ten", x.undo(), 10);
        DUE.is("nine", x.undo(), 9);
    }

    private static void whatElseIsToldLeavesIt() {
        DUE.sentence("what else is told leaves it");
        PressedPad x = padOf(3);
        x.write(0, 9, 1);
        x.carbons(7);
        x.word(5);
        x.forget();
        x.word(6);
        x.type('a');
        x.clear();
        x.type('b');
        x.read();
        x.rub(0, 1, 1);
        x.image(0);
        x.pad(0);
        DUE.is("count(5)", x.count(5), 1);
        DUE.is("undo()", x.undo(), 0);
        DUE.is("carbons stay", x.count(4), 7);
        DUE.is("words stay", x.count(3), 1);
        DUE.is("bytes stay", x.count(6), 1);
        DUE.is("the fraction stays", x.part(0), 9);
        DUE.is("the image stays", x.from(0), 1);
        DUE.is("count(2)", x.count(2), 1);
    }

    private static void undoBringsBackFullAndTorn() {
        DUE.sentence("UNDO from full and from all torn");
        PressedPad x = States.FULL_AND_TORN.make();
        DUE.is("undo()", x.undo(), 10);
        DUE.is("of(2, 2)", x.of(2, 2), 0);
        DUE.is("write is FULL, not NO", x.write(0, 1, 1), -4);
        DUE.is("tear()", x.tear(), 2);
        DUE.is("write is NO", x.write(0, 1, 1), -3);
    }

    private static void writingBehindUndo() {
        DUE.sentence("UNDO: what is written behind it takes its place");
        PressedPad x = padOf(2);
        x.write(0, 9, 1);
        x.write(0, 9, 2);
        x.undo();
        DUE.is("write", x.write(3, 4, 8), 1);
        DUE.is("kind", x.about(1, 0), 3);
        DUE.is("force", x.about(1, 4), 5);
        DUE.is("ink", x.of(0, 0), 1);
        DUE.is("whose", x.whose(1), 3);
        DUE.is("count(5)", x.count(5), 2);
        x.undo();
        x.undo();
        DUE.is("digest", x.digest(), padOf(2).digest());
    }

    private static void wordsEightAtMost() {
        DUE.sentence("A WORD: its number. BAD; FULL: 8");
        PressedPad x = new PressedPad();
        DUE.is("count(3)", x.count(3), 0);
        for (int w = 0; w < 8; w++) {
            DUE.is("word", x.word(4095 - w), w);
            DUE.is("count(3)", x.count(3), w + 1);
        }
        DUE.is("a 9th", x.word(0), -4);
        DUE.is("BAD is ahead", x.word(-1), -2);
        DUE.is("BAD is ahead", x.word(4096), -2);
        DUE.is("count(3)", x.count(3), 8);
    }

    private static void forgetHowMany() {
        DUE.sentence("No WORDS: how many there were");
        PressedPad x = new PressedPad();
        DUE.is("none", x.forget(), 0);
        x.word(0);
        DUE.is("one", x.forget(), 1);
        for (int w = 0; w < 9; w++) {
            x.word(w);
        }
        DUE.is("the most", x.forget(), 8);
        DUE.is("count(3)", x.count(3), 0);
        DUE.is("the digest has none of them", x.digest(), new PressedPad().digest());
    }

    private static void clearHowMany() {
        DUE.sentence("THE TEXT is empty: how many it had");
        PressedPad x = new PressedPad();
        DUE.is("none", x.clear(), 0);
        x.type(0);
        DUE.is("one", x.clear(), 1);
        for (int i = 0; i < 151; i++) {
            x.type(' ');
        }
        DUE.is("the most", x.clear(), 150);
        DUE.is("count(6)", x.count(6), 0);
        DUE.is("status(2)", x.status(2), 1);
    }

    private static void fractionAtFirst() {
        DUE.sentence("THE FRACTION is 0 by 1 at first; lowest terms, below above 0");
        PressedPad x = new PressedPad();
        DUE.is("part(0)", x.part(0), 0);
        DUE.is("part(1)", x.part(1), 1);
        x.rub(0, 0, 0);
        DUE.is("part(0)", x.part(0), 1);
        x.rub(0, 4095, 1);
        DUE.is("0 by 1 again", x.part(0), 0);
        DUE.is("0 by 1 again", x.part(1), 1);
        DUE.is("part(-1)", x.part(-1), -2);
        DUE.is("part(2)", x.part(2), -2);
    }

    private static void refusedRubLeavesTheFraction() {
        DUE.sentence("RUB is THE FRACTION: 1. BAD");
        PressedPad x = padOf(2);
        x.write(0, 3, 1);
        DUE.is("rub", x.rub(0, 1, 1), 1);
        int[][] wrong = {{-1, 1, 1}, {2, 1, 1}, {0, -1, 1}, {0, 4096, 1}, {0, 1, -1}, {0, 1, 2}};
        for (int[] a : wrong) {
            DUE.is("rub", x.rub(a[0], a[1], a[2]), -2);
            DUE.is("part(0)", x.part(0), 3);
            DUE.is("part(1)", x.part(1), 10);
        }
        DUE.is("status(0)", x.status(0), 6);
    }

    private static void imagesZeroAndOne() {
        DUE.sentence("IMAGES 0, 1");
        PressedPad x = new PressedPad();
        DUE.is("image(-1)", x.image(-1), -2);
        DUE.is("image(2)", x.image(2), -2);
        DUE.is("from(0)", x.from(0), -3);
        DUE.is("from(1)", x.from(1), -3);
        DUE.is("image(0)", x.image(0), 1);
        DUE.is("from(1)", x.from(1), -3);
        DUE.is("from(0)", x.from(0), 1);
        DUE.is("image(1)", x.image(1), 1);
        DUE.is("from(1)", x.from(1), 1);
        DUE.is("from(-1)", x.from(-1), -2);
        DUE.is("from(2)", x.from(2), -2);
    }

    private static void imagesKeepAllBut() {
        DUE.sentence("IMAGES keep all but them, THE TEXT, THE FRACTION and STATUS");
        for (States state : States.values()) {
            PressedPad x = state.make();
            x.image(1);
            long digest = x.digest();
            long above = x.part(0);
            long below = x.part(1);
            x.pad(1);
            x.word(1);
            x.carbons(1);
            x.write(0, 1, 1);
            DUE.is("from(1)", x.from(1), 1);
            DUE.is("digest in " + state, x.digest(), digest);
            x.clear();
            x.type('x');
            x.rub(0, 0, 1);
            x.pad(9);
            int refused = x.status(0);
            DUE.is("from(1)", x.from(1), 1);
            DUE.is("bytes", x.count(6), 1);
            DUE.is("part(0)", x.part(0), 1);
            DUE.is("status(0)", x.status(0), refused);
            DUE.holds(above >= 0 && below > 0, "below above 0");
        }
    }

    private static void imagesKeepWhatMayBeUndone() {
        DUE.sentence("what may be undone they keep");
        PressedPad x = States.ALL_FULL.make();
        x.image(0);
        PressedPad twin = States.ALL_FULL.make();
        twin.image(0);
        x.pad(2);
        for (int k = 0; k < 10; k++) {
            x.write(2, 9, 1 << k);
        }
        x.from(0);
        DUE.is("count(5)", x.count(5), 8);
        DUE.holds(States.trace(x).equals(States.trace(twin)), "what may be undone is not as it was");
        PressedPad y = padOf(2);
        y.image(0);
        y.write(0, 1, 1);
        y.from(0);
        DUE.is("none was kept: count(5)", y.count(5), 0);
        DUE.is("none was kept", y.undo(), -3);
    }

    private static void imagesAreApart() {
        DUE.sentence("it goes on from one");
        PressedPad x = padOf(2);
        x.write(0, 9, 1);
        x.image(0);
        x.image(1);
        long kept = x.digest();
        x.from(0);
        x.write(0, 9, 2);
        x.carbons(3);
        x.word(9);
        x.tear();
        x.undo();
        x.undo();
        x.undo();
        DUE.is("from(0): going on left it as it was", x.from(0), 1);
        DUE.is("digest", x.digest(), kept);
        DUE.is("undo()", x.undo(), 0);
        x.write(4, 3, 7);
        x.image(0);
        DUE.is("from(1): the other one was left", x.from(1), 1);
        DUE.is("digest", x.digest(), kept);
        DUE.is("about(0, 0)", x.about(0, 0), 0);
        DUE.is("from(0): kept anew", x.from(0), 1);
        DUE.is("about(0, 0)", x.about(0, 0), 4);
        DUE.is("about(0, 4)", x.about(0, 4), 1);
    }

    private static void fromNoneWasKept() {
        DUE.sentence("NO: none was kept");
        PressedPad x = new PressedPad();
        x.write(0, 1, 1);
        DUE.is("from(0)", x.from(0), -3);
        DUE.is("from(1)", x.from(1), -3);
        DUE.is("count(2)", x.count(2), 1);
        DUE.is("status(1)", x.status(1), 2);
        x.image(1);
        x.pad(3);
        DUE.is("from(0)", x.from(0), -3);
        DUE.is("from(1)", x.from(1), 1);
        DUE.is("status(1)", x.status(1), 3);
    }

    private static void statusAnotherWhat() {
        DUE.sentence("-1: another what (counts as BAD)");
        PressedPad x = new PressedPad();
        DUE.is("status(-1)", x.status(-1), -1);
        DUE.is("status(0)", x.status(0), 1);
        DUE.is("status(3)", x.status(3), -1);
        DUE.is("status(0)", x.status(0), 2);
        DUE.is("status(1)", x.status(1), 0);
        DUE.is("status(2)", x.status(2), 0);
    }

    private static void statusOfRefusals() {
        DUE.sentence("STATUS: how many calls were refused as BAD, NO, FULL (each answer told so below is such a one)");
        PressedPad x = new PressedPad();
        for (int what = 0; what <= 2; what++) {
            DUE.is("status(" + what + ") at first", x.status(what), 0);
        }
        long[] answers = {
            x.pad(0), x.carbons(16), x.write(6, 1, 1), x.word(4096), x.type(128), x.of(4, 0), x.dent(4, 0), x.about(0, 0),
            x.force(6, 1, 0), x.whose(4), x.own(0, 0), x.shown(0, 0), x.lost(0, 0, 0, 1, 0, 4), x.pen(0, 0, 0, 0, 0),
            x.orders(-2), x.press(0, 0), x.copies(16, 0, 1, 0), x.rub(0, 0, 2), x.torn(1), x.drawn(0, 21), x.part(2),
            x.image(2), x.from(2), x.status(3), x.count(7)
        };
        long sum = 0;
        for (long answer : answers) {
            sum += answer;
        }
        // Five of them answer -10, status -1, the other nineteen -2.
        DUE.is("all the answers together", sum, -5 * 10 - 1 - 19 * 2);
        DUE.is("status(0)", x.status(0), 25);
        DUE.is("status(1)", x.status(1), 0);
        DUE.is("status(2)", x.status(2), 0);
    }

    private static void countsAtTheirMost() {
        DUE.sentence("How many: 0 SHEETS .. 6 bytes of THE TEXT. BAD");
        PressedPad x = States.ALL_FULL.make();
        int[] most = {6, 0, 10, 8, 63, 8, 150};
        for (int what = 0; what <= 6; what++) {
            DUE.is("count(" + what + ")", x.count(what), most[what]);
        }
        DUE.is("count(-1)", x.count(-1), -2);
        DUE.is("count(7)", x.count(7), -2);
        for (int s = 0; s < 6; s++) {
            x.tear();
        }
        DUE.is("count(1)", x.count(1), 6);
    }

    private static long digestOf(long... values) {
        long h = 919;
        for (long v : values) {
            h = 31 * h + v;
        }
        return h;
    }

    private static void digestOfNone() {
        DUE.sentence("digest: no NOTES, no WORDS");
        long[] values = new long[7 + 14 + 2];
        values[0] = 1;
        values[22] = 1;
        DUE.is("one sheet", padOf(1).digest(), digestOf(values));
        values = new long[7 + 4 * 14 + 2];
        values[0] = 4;
        values[64] = 1;
        DUE.is("a new object", new PressedPad().digest(), digestOf(values));
    }

    private static void digestOfTheMost() {
        DUE.sentence("digest: count(0) to count(6); of SHEETS INK, COPY, DENTS; of NOTES; WORDS; THE FRACTION");
        for (States state : States.values()) {
            PressedPad x = state.make();
            List<Long> values = new ArrayList<>();
            for (int what = 0; what <= 6; what++) {
                values.add((long) x.count(what));
            }
            for (int s = 0; s < state.sheets; s++) {
                values.add((long) x.of(s, 0));
                values.add((long) x.of(s, 1));
                for (int c = 0; c < 12; c++) {
                    values.add((long) x.dent(s, c));
                }
            }
            for (int k = 0; k < state.notes; k++) {
                for (int what = 0; what <= 3; what++) {
                    values.add((long) x.about(k, what));
                }
            }
            for (int w = 0; w < x.count(3); w++) {
                values.add(state == States.ALL_FULL ? 585L * w : state == States.HALF_TORN ? 9L : 0L);
            }
            values.add(x.part(0));
            values.add(x.part(1));
            DUE.is("digest in " + state, x.digest(), digestOf(values.stream().mapToLong(v -> v).toArray()));
        }
    }

    private static void fiveHundredTwelveCalls() {
        DUE.sentence("An object is used for at most 512 calls");
        PressedPad x = new PressedPad();
        for (int k = 0; k < 511; k++) {
            x.pad(0);
        }
        DUE.is("the 512th call", x.status(0), 511);
        PressedPad y = new PressedPad();
        for (int k = 0; k < 255; k++) {
            y.write(0, 9, k);
            y.undo();
        }
        DUE.is("the 511th call", y.count(2), 0);
        DUE.is("the 512th call", y.write(0, 9, 4095), 0);
    }
}
