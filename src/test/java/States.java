import java.util.ArrayList;
import java.util.List;

/** Objects in told states, each made anew by the same calls, and all that calls can bring to light of one. */
enum States {
    NEW(4, 0, 0), ONE_SHEET(1, 0, 1), HALF_TORN(5, 2, 4), ALL_TORN(2, 2, 2), ALL_FULL(6, 0, 10), FULL_AND_TORN(3, 3, 10);

    private static final String TEXT = "pad 5;carbon 0;carbon 1;carbon 3;note 0 9 0 1 2 3 4 5 6 7 8 9 10 11;tear;"
        + "note 5 9 1 3 5 7 9 11;tear;note 1 8 0 2 4 6 8 10;tear;note 3 7 10;note 2 9 0;";

    final int sheets;
    final int torn;
    final int notes;

    States(int sheets, int torn, int notes) {
        this.sheets = sheets;
        this.torn = torn;
        this.notes = notes;
    }

    PressedPad make() {
        PressedPad x = new PressedPad();
        switch (this) {
            case ONE_SHEET -> makeOneSheet(x);
            case HALF_TORN -> makeHalfTorn(x);
            case ALL_TORN -> makeAllTorn(x);
            case ALL_FULL -> makeFull(x);
            case FULL_AND_TORN -> makeFullAndTorn(x);
            default -> { }
        }
        return x;
    }

    private static void makeOneSheet(PressedPad x) {
        x.pad(1);
        x.write(1, 9, 4095);
        x.word(0);
        x.type(';');
        x.image(0);
    }

    private static void makeHalfTorn(PressedPad x) {
        x.pad(5);
        x.carbons(9);
        x.write(0, 7, 41);
        x.image(1);
        x.write(3, 4, 96);
        x.tear();
        x.write(2, 9, 2049);
        x.tear();
        x.write(5, 3, 8);
        x.tear();
        x.undo();
        x.word(9);
        x.rub(2, 1, 1);
        for (char c : "pad 2;note 0 3 1;".toCharArray()) {
            x.type(c);
        }
    }

    private static void makeAllTorn(PressedPad x) {
        x.pad(2);
        x.write(0, 9, 6);
        x.tear();
        x.image(0);
        x.write(4, 9, 12);
        x.tear();
    }

    private static void makeFull(PressedPad x) {
        x.pad(6);
        x.carbons(63);
        for (int k = 0; k < 10; k++) {
            x.write(k % 6, 9 - k % 9, 379 * k + 5);
            if (k == 3 || k == 6) {
                x.image(k / 6);
            }
        }
        for (int w = 0; w < 8; w++) {
            x.word(585 * w);
        }
        for (int i = 0; i < 150; i++) {
            x.type(TEXT.charAt(i));
        }
        x.rub(1, 4095, 1);
    }

    private static void makeFullAndTorn(PressedPad x) {
        x.pad(3);
        for (int k = 0; k < 10; k++) {
            x.write(1, 1 + k % 9, 1 << k);
        }
        for (int s = 0; s < 3; s++) {
            x.tear();
        }
    }

    /** Each moment that may be undone, both images with theirs, and the text read; STATUS apart. */
    static List<Long> trace(PressedPad x) {
        List<Long> seen = new ArrayList<>();
        look(x, seen);
        undoAll(x, seen);
        for (int i = 0; i < 2; i++) {
            seen.add((long) x.from(i));
            look(x, seen);
            undoAll(x, seen);
        }
        seen.add((long) x.read());
        look(x, seen);
        return seen;
    }

    private static void look(PressedPad x, List<Long> seen) {
        seen.add(x.digest());
        for (int s = 0; s < x.count(0); s++) {
            seen.add((long) x.of(s, 2));
            seen.add((long) x.whose(s));
        }
        for (int k = 0; k < x.count(2); k++) {
            seen.add((long) x.about(k, 4));
        }
    }

    private static void undoAll(PressedPad x, List<Long> seen) {
        for (int k = 0; k < 10; k++) {
            seen.add((long) x.undo());
            seen.add(x.digest());
        }
    }
}
