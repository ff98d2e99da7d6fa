/** THE PAD is told by a TEXT: each thing that the document says of a TEXT's bounds and FAULT, with a test of its own. */
public final class TextBoundsTest {
    private static final Due DUE = new Due("TextBoundsTest");

    public static void main(String[] args) {
        bytesAtMost();
        bytesAsTold();
        endedByASemicolon();
        padOnce();
        padFirstOfAll();
        padNumber();
        carbonSheet();
        noteKind();
        notePress();
        noteCellsAny();
        noteCellsRising();
        noteCellsAsTold();
        words();
        oneOrTwoFigures();
        thirdFigure();
        blanks();
        blanksAlone();
        bytesThatBeginNone();
        eleventhNote();
        noteWithoutASheet();
        tearWithoutASheet();
        endsTooEarly();
        emptyText();
        theFirstFaultIsTold();
        aFaultLeavesAll();
        takesThePlaceOfAll();
        leavesTheRest();
        howManyItems();
        DUE.end();
    }

    private static void typeAll(PressedPad x, String text) {
        for (int i = 0; i < text.length(); i++) {
            x.type(text.charAt(i));
        }
    }

    private static PressedPad reads(String text, int items) {
        PressedPad x = new PressedPad();
        typeAll(x, text);
        DUE.is("read of '" + text + "'", x.read(), items);
        return x;
    }

    private static void faultAt(String text, int place) {
        PressedPad x = States.HALF_TORN.make();
        x.clear();
        typeAll(x, text);
        PressedPad twin = States.HALF_TORN.make();
        twin.clear();
        typeAll(twin, text);
        DUE.is("read of '" + text + "'", x.read(), -10 - place);
        DUE.holds(States.trace(x).equals(States.trace(twin)), "the fault of '" + text + "' changed something");
    }

    private static void bytesAtMost() {
        DUE.sentence("a TEXT (150 bytes at most)");
        PressedPad x = new PressedPad();
        String text = " ".repeat(143) + "pad  3;";
        DUE.is("count(6)", x.count(6), 0);
        for (int i = 0; i < 150; i++) {
            DUE.is("type", x.type(text.charAt(i)), i + 1);
        }
        DUE.is("the 151st", x.type(';'), -4);
        DUE.is("count(6)", x.count(6), 150);
        DUE.is("read()", x.read(), 1);
        DUE.is("count(0)", x.count(0), 3);
        DUE.is("clear()", x.clear(), 150);
        DUE.is("type behind it", x.type('p'), 1);
        typeAll(x, "ad 1;" + " ".repeat(144));
        DUE.is("blanks to the end", x.read(), 1);
        x.clear();
        typeAll(x, "pad 1;" + " ".repeat(143) + "x");
        DUE.is("a fault at the last byte", x.read(), -159);
        x.clear();
        typeAll(x, "pad 1;" + " ".repeat(140) + "tear");
        DUE.is("the end is too early behind 150 bytes", x.read(), -160);
        x.clear();
        typeAll(x, "pad 1;" + " ".repeat(142) + "12");
        DUE.is("a number as the last bytes", x.read(), -158);
    }

    private static void bytesAsTold() {
        DUE.sentence("A byte (0 .. 127) comes behind THE TEXT");
        PressedPad x = new PressedPad();
        DUE.is("type(-1)", x.type(-1), -2);
        DUE.is("type(128)", x.type(128), -2);
        DUE.is("type(112 + 256)", x.type(112 + 256), -2);
        DUE.is("count(6)", x.count(6), 0);
        for (int c = 0; c <= 127; c++) {
            DUE.is("type(" + c + ")", x.type(c), c + 1);
        }
    }

    private static void endedByASemicolon() {
        DUE.sentence("ITEMS, each ended by ;");
        reads("pad 1;tear;", 2);
        faultAt("pad 1 tear;", 6);
        faultAt("pad 1;tear", 10);
        faultAt("pad 1;tear tear;", 11);
        faultAt("pad 1;;", 6);
        faultAt("pad 1;tear;;", 11);
        faultAt(";pad 1;", 0);
        faultAt("pad 2;carbon 0 note 0 1;", 15);
        faultAt("pad 1:", 5);
    }

    private static void padOnce() {
        DUE.sentence("pad n (once)");
        faultAt("pad 2;pad 2;", 6);
        faultAt("pad 2;pad 3;", 6);
        faultAt("pad 2;tear;note 0 1;pad 2;", 20);
        faultAt("pad 2;pad", 6);
        faultAt("pad 2 pad;", 6);
    }

    private static void padFirstOfAll() {
        DUE.sentence("pad n (first of all); anything ahead of it");
        faultAt("tear;pad 1;", 0);
        faultAt("carbon 0;pad 1;", 0);
        faultAt("note 0 1;pad 1;", 0);
        faultAt(" 4;", 1);
        faultAt("  ;", 2);
        faultAt("tear;", 0);
        faultAt("tear", 0);
    }

    private static void padNumber() {
        DUE.sentence("pad n, a number not as told (1 .. 6)");
        for (int n = 1; n <= 6; n++) {
            PressedPad x = reads("pad " + n + ";", 1);
            DUE.is("count(0)", x.count(0), n);
        }
        faultAt("pad 0;", 4);
        faultAt("pad 00;", 4);
        faultAt("pad 7;", 4);
        faultAt("pad 10;", 4);
        faultAt("pad 99;", 4);
        faultAt("pad ;", 4);
        faultAt("pad;", 3);
        faultAt("pad x;", 4);
        faultAt("pad pad;", 4);
        faultAt("pad 3 3;", 6);
    }

    private static void carbonSheet() {
        DUE.sentence("carbon s; also a SHEET that is not there");
        for (int n = 1; n <= 6; n++) {
            PressedPad x = reads("pad " + n + ";carbon " + (n - 1) + ";", 2);
            DUE.is("count(4)", x.count(4), 1 << n - 1);
            faultAt("pad " + n + ";carbon " + n + ";", 13);
        }
        DUE.is("count(4)", reads("pad 6;carbon 0;carbon 5;carbon 0;", 4).count(4), 33);
        faultAt("pad 6;carbon 10;", 13);
        faultAt("pad 6;carbon 99;", 13);
        faultAt("pad 6;carbon;", 12);
        faultAt("pad 6;carbon 0 1;", 15);
        faultAt("pad 6;carbon tear;", 13);
    }

    private static void noteKind() {
        DUE.sentence("note KIND, a number not as told (0 .. 5)");
        for (int kind = 0; kind <= 5; kind++) {
            DUE.is("about(0, 0)", reads("pad 1;note " + kind + " 1;", 2).about(0, 0), kind);
        }
        faultAt("pad 1;note 6 1;", 11);
        faultAt("pad 1;note 50 1;", 11);
        faultAt("pad 1;note;", 10);
        faultAt("pad 1;note tear;", 11);
    }

    private static void notePress() {
        DUE.sentence("note KIND PRESS, a number not as told (1 .. 9)");
        for (int press = 1; press <= 9; press++) {
            DUE.is("about(0, 1)", reads("pad 1;note 0 " + press + ";", 2).about(0, 1), press);
        }
        faultAt("pad 1;note 0 0;", 13);
        faultAt("pad 1;note 0 10;", 13);
        faultAt("pad 1;note 0 00;", 13);
        faultAt("pad 1;note 0;", 12);
        faultAt("pad 1;note 0 ;", 13);
        faultAt("pad 1;note 6 0;", 11);
    }

    private static void noteCellsAny() {
        DUE.sentence("its CELLS (any, rising): none, one, all");
        DUE.is("none", reads("pad 1;note 0 9;", 2).about(0, 2), 0);
        for (int c = 0; c <= 11; c++) {
            DUE.is("one", reads("pad 1;note 0 9 " + c + ";", 2).about(0, 2), 1 << c);
        }
        DUE.is("all", reads("pad 1;note 0 9 0 1 2 3 4 5 6 7 8 9 10 11;", 2).about(0, 2), 4095);
        DUE.is("first and last", reads("pad 1;note 0 9 0 11;", 2).about(0, 2), 2049);
    }

    private static void noteCellsRising() {
        DUE.sentence("a CELL not above the one ahead");
        reads("pad 1;note 0 9 4 5;", 2);
        faultAt("pad 1;note 0 9 4 4;", 17);
        faultAt("pad 1;note 0 9 4 3;", 17);
        faultAt("pad 1;note 0 9 0 0;", 17);
        faultAt("pad 1;note 0 9 11 11;", 18);
        faultAt("pad 1;note 0 9 1 2 3 2 9;", 21);
        faultAt("pad 1;note 0 9 0 1 2 3 4 5 6 7 8 9 10 11 11;", 41);
        faultAt("pad 1;note 0 9 0 1 2 3 4 5 6 7 8 9 10 11 12;", 41);
        DUE.is("each note anew", reads("pad 1;note 0 9 5;note 0 9 3;", 3).about(1, 2), 8);
    }

    private static void noteCellsAsTold() {
        DUE.sentence("a number not as told: CELLS 0 .. 11");
        faultAt("pad 1;note 0 9 12;", 15);
        faultAt("pad 1;note 0 9 99;", 15);
        faultAt("pad 1;note 0 9 0 12;", 17);
        faultAt("pad 1;note 0 9 -1;", 15);
        faultAt("pad 1;note 0 9 x;", 15);
    }

    private static void words() {
        DUE.sentence("words of letters a .. z; a word that is none");
        faultAt("pa 1;", 0);
        faultAt("pads 1;", 0);
        faultAt("padpad 1;", 0);
        faultAt("mad 1;", 0);
        faultAt("pat 1;", 0);
        faultAt("pad 1;vote 0 1;", 6);
        faultAt("pad 1;harbon 0;", 6);
        faultAt("pad 1;bear;", 6);
        faultAt("a", 0);
        faultAt("z 1;", 0);
        faultAt("pad 1;not 0 1;", 6);
        faultAt("pad 1;notes 0 1;", 6);
        faultAt("pad 1;nope 0 1;", 6);
        faultAt("pad 1;carbo 0;", 6);
        faultAt("pad 1;carbons 0;", 6);
        faultAt("pad 1;tea;", 6);
        faultAt("pad 1;tears;", 6);
        faultAt("pad 1;team;", 6);
        faultAt("p ad 1;", 0);
        faultAt("pad 1;te ar;", 6);
        faultAt("Pad 1;", 0);
        faultAt("pAd 1;", 0);
        faultAt("pad 1;Tear;", 6);
    }

    private static void oneOrTwoFigures() {
        DUE.sentence("figures (1 or 2 are one number)");
        DUE.is("pad 03", reads("pad 03;", 1).count(0), 3);
        DUE.is("00 05 06 11", reads("pad 06;carbon 00;note 05 09 00 06 11;", 3).about(0, 2), 2113);
        DUE.is("1 1 is not 11", reads("pad 1;note 1 1 1;", 2).about(0, 2), 2);
        DUE.is("11", reads("pad 1;note 1 1 11;", 2).about(0, 2), 2048);
        DUE.is("10", reads("pad 1;note 1 1 10;", 2).about(0, 2), 1024);
        faultAt("pad 1;note 11;", 11);
    }

    private static void thirdFigure() {
        DUE.sentence("a third figure's number");
        faultAt("pad 001;", 4);
        faultAt("pad 012;", 4);
        faultAt("pad 1;note 000 1;", 11);
        faultAt("pad 1;note 0 001;", 13);
        faultAt("pad 1;note 0 1 001;", 15);
        faultAt("pad 1;note 0 1 0 011;", 17);
        faultAt("pad 2;carbon 001;", 13);
        faultAt("pad 1;note 0 1 0000000000000000000000001;", 15);
        faultAt("pad 4294967297;", 4);
    }

    private static void blanks() {
        DUE.sentence("blanks (32) between");
        DUE.is("many", reads("   pad   2  ;  note  0   9  1  3  ;   tear  ;  ", 3).about(0, 2), 10);
        DUE.is("none are needed", reads("pad2;note0 9 1 3;tear;", 3).about(0, 2), 10);
        faultAt("pad\t1;", 3);
        faultAt("pad\n1;", 3);
        faultAt("pad\0001;", 3);
        faultAt("pad 1;\n", 6);
        faultAt("pad 1;\r", 6);
        faultAt("pad 1!;", 5);
    }

    private static void blanksAlone() {
        DUE.sentence("the TEXT's length, if it ends too early: blanks alone");
        faultAt(" ", 1);
        faultAt("  ", 2);
        faultAt(" ".repeat(150), 150);
    }

    private static void bytesThatBeginNone() {
        DUE.sentence("a byte that begins none, too");
        for (int c = 0; c <= 127; c++) {
            boolean begins = c == ' ' || c == ';' || c >= '0' && c <= '9' || c >= 'a' && c <= 'z';
            if (!begins) {
                faultAt((char) c + "pad 1;", 0);
                faultAt("pad" + (char) c + "1;", 3);
                faultAt("pad 1" + (char) c + ";", 5);
                faultAt("pad 1;" + (char) c + ";", 6);
                faultAt("pad 1;note 0 1 2" + (char) c + ";", 16);
            }
        }
    }

    private static void eleventhNote() {
        DUE.sentence("an 11th note");
        DUE.is("ten", reads("pad 1;" + "note 0 1;".repeat(10), 11).count(2), 10);
        faultAt("pad 1;" + "note 0 1;".repeat(11), 96);
        faultAt("pad 1;" + "note 0 1;".repeat(10) + "note", 96);
        faultAt("pad 1;" + "note 0 1;".repeat(10) + "note 9 9;", 96);
        DUE.is("a tear behind ten", reads("pad 1;" + "note 0 1;".repeat(10) + "tear;", 12).count(1), 1);
        DUE.is("a carbon behind ten", reads("pad 1;" + "note 0 1;".repeat(10) + "carbon 0;", 12).count(4), 1);
    }

    private static void noteWithoutASheet() {
        DUE.sentence("a note without a SHEET that is not TORN at the word");
        DUE.is("on the last one", reads("pad 2;tear;note 0 1 0;", 3).about(0, 3), 1);
        faultAt("pad 2;tear;tear;note 0 1;", 16);
        faultAt("pad 1;tear;note 9 9;", 11);
        faultAt("pad 1;tear;note", 11);
        faultAt("pad 6;" + "tear;".repeat(6) + "note 0 1;", 36);
    }

    private static void tearWithoutASheet() {
        DUE.sentence("a tear without a SHEET that is not TORN at the word");
        DUE.is("all of six", reads("pad 6;" + "tear;".repeat(6), 7).count(1), 6);
        faultAt("pad 6;" + "tear;".repeat(7), 36);
        faultAt("pad 1;tear;tear;", 11);
        faultAt("pad 1;tear;tear", 11);
        faultAt("pad 1;tear; tear 5", 12);
        DUE.is("a carbon when all are torn", reads("pad 1;tear;carbon 0;", 3).count(4), 1);
    }

    private static void endsTooEarly() {
        DUE.sentence("the TEXT's length, if it ends too early");
        String text = "pad 2;carbon 1;note 0 9 0 11;tear;";
        for (int length = 1; length < text.length(); length++) {
            String early = text.substring(0, length);
            boolean wordCut = !early.endsWith(";") && early.matches(".*;[a-z]+|[a-z]+")
                && !early.matches("(.*;)?(pad|carbon|note|tear)");
            if (early.endsWith(";")) {
                reads(early, early.split(";").length);
            } else if (!wordCut) {
                faultAt(early, length);
            } else {
                faultAt(early, early.lastIndexOf(';') + 1);
            }
        }
        faultAt("pad 1;note 0 1   ", 17);
        faultAt("pad 1 ", 6);
    }

    private static void emptyText() {
        DUE.sentence("the TEXT's length, if it ends too early (an empty one, too)");
        PressedPad x = new PressedPad();
        DUE.is("read()", x.read(), -10);
        typeAll(x, "pad 2;");
        DUE.is("clear()", x.clear(), 6);
        DUE.is("read() behind clear()", x.read(), -10);
        DUE.is("count(0)", x.count(0), 4);
        faultAt("", 0);
    }

    private static void theFirstFaultIsTold() {
        DUE.sentence("the first byte of the first TOKEN that can not stand there");
        faultAt("pad 9;pad 9;", 4);
        faultAt("pad 1;nota 0 1;tear;tear;tear;", 6);
        faultAt("pad 1;note 7 0 99;", 11);
        faultAt("pad 1;tear;tear;#", 11);
        faultAt("#", 0);
        faultAt("pad 1;tear;note 0 001 #", 11);
    }

    private static void aFaultLeavesAll() {
        DUE.sentence("-10 less the FAULT: all stays");
        PressedPad x = States.ALL_FULL.make();
        PressedPad twin = States.ALL_FULL.make();
        x.clear();
        twin.clear();
        typeAll(x, "pad 1;carbon 0;note 0 9 1;tear;tear;");
        typeAll(twin, "pad 1;carbon 0;note 0 9 1;tear;tear;");
        DUE.is("read()", x.read(), -41);
        DUE.is("read() again", x.read(), -41);
        for (int r = 0; r < 3; r++) {
            DUE.is("status(" + r + ")", x.status(r), twin.status(r));
        }
        DUE.holds(States.trace(x).equals(States.trace(twin)), "a fault changed something");
    }

    private static void takesThePlaceOfAll() {
        DUE.sentence("A PAD that is read takes the place of all but IMAGES, THE TEXT, THE FRACTION, STATUS");
        for (States state : States.values()) {
            PressedPad x = state.make();
            x.clear();
            typeAll(x, "pad 2;carbon 0;note 0 4 0;");
            DUE.is("read()", x.read(), 3);
            int[] counts = {2, 0, 1, 0, 1, 0, 26};
            for (int what = 0; what <= 6; what++) {
                DUE.is("count(" + what + ") from " + state, x.count(what), counts[what]);
            }
            DUE.is("whose(1)", x.whose(1), 1);
            DUE.is("shown(0, 1)", x.shown(0, 1), 1);
            DUE.is("ink", x.of(0, 0), 1);
            DUE.is("copy", x.of(1, 1), 1);
            DUE.is("nothing to undo", x.undo(), -3);
            DUE.is("WORDS none", x.forget(), 0);
        }
    }

    private static void leavesTheRest() {
        DUE.sentence("all but IMAGES, THE TEXT, THE FRACTION, STATUS");
        PressedPad x = States.HALF_TORN.make();
        x.pad(0);
        x.from(0);
        x.image(0);
        long kept = x.digest();
        long above = x.part(0);
        long below = x.part(1);
        DUE.is("read()", x.read(), 2);
        DUE.is("part(0)", x.part(0), above);
        DUE.is("part(1)", x.part(1), below);
        DUE.is("bytes", x.count(6), 17);
        DUE.is("status(0)", x.status(0), 1);
        DUE.is("status(1)", x.status(1), 1);
        DUE.is("read() again: the text is there", x.read(), 2);
        DUE.is("from(0)", x.from(0), 1);
        DUE.is("digest", x.digest(), kept);
    }

    private static void howManyItems() {
        DUE.sentence("THE PAD is read: how many ITEMS");
        reads("pad 6;", 1);
        reads("pad 6;tear;", 2);
        reads("pad 6;carbon 0;", 2);
        reads("pad 6;" + "carbon0;".repeat(18), 19);
    }
}
