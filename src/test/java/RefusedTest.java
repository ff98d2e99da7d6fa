import java.util.ArrayList;
import java.util.List;

/**
 * "Refused, changing nothing but STATUS": each number of each call at its last value that is as told and at the first
 * that is not, on both sides, in states from new to full. What a refused call leaves is compared with an object made
 * by the same calls but that one, down to what may be undone, the images and the text.
 */
public final class RefusedTest {
    private interface Ask {
        long of(PressedPad x, int[] a);
    }

    /** A number of a call: the values that are as told lie between these; none do, if most is below least. */
    private record Told(int least, int most) { }

    private record Call(String name, int bad, Ask ask, Told... told) { }

    private static final int BAD = 0;
    private static final int NO = 1;
    private static final int FULL = 2;
    private static final int COUNTED_NOWHERE = 3;

    private static final Due DUE = new Due("RefusedTest");

    public static void main(String[] args) {
        for (States state : States.values()) {
            asNamed(state);
            for (Call call : changes(state)) {
                bounds(state, call, false);
            }
            for (Call call : looks(state)) {
                bounds(state, call, true);
            }
            for (Call call : lostAndCopies(state)) {
                bounds(state, call, true);
            }
        }
        refusedAsNo();
        refusedAsFull();
        theFirstOf();
        tornSheetsOfCopies();
        notCounted();
        manyRefused();
        DUE.end();
    }

    /** The bounds below are told by the state's numbers, so these must be the object's. */
    private static void asNamed(States state) {
        DUE.sentence("the test's own states");
        PressedPad x = state.make();
        DUE.is("count(0) in " + state, x.count(0), state.sheets);
        DUE.is("count(1) in " + state, x.count(1), state.torn);
        DUE.is("count(2) in " + state, x.count(2), state.notes);
        if (state == States.ALL_FULL) {
            DUE.is("count(3)", x.count(3), 8);
            DUE.is("count(5)", x.count(5), 8);
            DUE.is("count(6)", x.count(6), 150);
            DUE.is("read()", x.read(), 12);
        }
    }

    private static List<Call> changes(States s) {
        return List.of(
            new Call("2 pad", -2, (x, a) -> x.pad(a[0]), new Told(1, 6)),
            new Call("3 carbons", -2, (x, a) -> x.carbons(a[0]), new Told(0, (1 << s.sheets) - 1)),
            new Call("4 write", -2, (x, a) -> x.write(a[0], a[1], a[2]), new Told(0, 5), new Told(1, 9),
                new Told(0, 4095)),
            new Call("7 word", -2, (x, a) -> x.word(a[0]), new Told(0, 4095)),
            new Call("9 type", -2, (x, a) -> x.type(a[0]), new Told(0, 127)),
            new Call("24 rub", -2, (x, a) -> x.rub(a[0], a[1], a[2]), new Told(0, s.sheets - 1), new Told(0, 4095),
                new Told(0, 1)),
            new Call("28 image", -2, (x, a) -> x.image(a[0]), new Told(0, 1)),
            new Call("29 from", -2, (x, a) -> x.from(a[0]), new Told(0, 1)));
    }

    private static List<Call> looks(States s) {
        Told sheet = new Told(0, s.sheets - 1);
        Told note = new Told(0, s.notes - 1);
        return List.of(
            new Call("12 of", -10, (x, a) -> x.of(a[0], a[1]), sheet, new Told(0, 3)),
            new Call("13 dent", -2, (x, a) -> x.dent(a[0], a[1]), sheet, new Told(0, 11)),
            new Call("14 about", -2, (x, a) -> x.about(a[0], a[1]), note, new Told(0, 5)),
            new Call("15 force", -2, (x, a) -> x.force(a[0], a[1], a[2]), new Told(0, 5), new Told(1, 9),
                new Told(0, 5)),
            new Call("16 whose", -2, (x, a) -> x.whose(a[0]), sheet),
            new Call("17 own", -2, (x, a) -> x.own(a[0], a[1]), note, sheet),
            new Call("18 shown", -2, (x, a) -> x.shown(a[0], a[1]), sheet, new Told(1, 9)),
            new Call("27 part", -2, (x, a) -> x.part(a[0]), new Told(0, 1)),
            new Call("30 status", -1, (x, a) -> x.status(a[0]), new Told(0, 2)),
            new Call("31 count", -2, (x, a) -> x.count(a[0]), new Told(0, 6)));
    }

    private static List<Call> lostAndCopies(States s) {
        Told sheet = new Told(0, s.sheets - 1);
        Told known = new Told(0, (1 << s.notes) - 1);
        Told untorn = new Told(0, s.torn > 0 ? 0 : (1 << s.sheets) - 1);
        return List.of(
            new Call("19 lost", -10, (x, a) -> x.lost(a[0], a[1], a[2], a[3], a[4], a[5]), sheet, known,
                new Told(0, 5), new Told(1, 9), new Told(0, 5), new Told(0, 3)),
            new Call("20 pen", -10, (x, a) -> x.pen(a[0], a[1], a[2], a[3], a[4]), sheet, known, new Told(0, 5),
                new Told(1, 4095), new Told(0, 1)),
            new Call("21 orders", -10, (x, a) -> x.orders(a[0]), new Told(-1, Integer.MAX_VALUE)),
            new Call("22 press", -2, (x, a) -> x.press(a[0], a[1]), new Told(0, 5), new Told(1, 5)),
            new Call("23 copies", -10, (x, a) -> x.copies(a[0], a[1], a[2], a[3]), untorn, new Told(0, 5),
                new Told(1, 9), new Told(0, 1)),
            new Call("25 torn", -2, (x, a) -> x.torn(a[0]), known),
            new Call("26 drawn", -2, (x, a) -> x.drawn(a[0], a[1]), new Told(0, 999999), new Told(0, 20)));
    }

    private static void bounds(States state, Call call, boolean changesNothing) {
        boolean canBeTold = true;
        for (Told told : call.told) {
            canBeTold &= told.least <= told.most;
        }
        for (int p = 0; p < call.told.length; p++) {
            for (int v : notTold(call.told[p])) {
                refused(state, call.name, call.ask, with(call, p, v), call.bad, BAD);
            }
            if (canBeTold) {
                taken(state, call, with(call, p, call.told[p].least), changesNothing);
                taken(state, call, with(call, p, call.told[p].most), changesNothing);
            }
        }
    }

    /** The nearest on both sides, the farthest, and such as a narrower type or a shift would take for others. */
    private static List<Integer> notTold(Told told) {
        int[] tries = {
            told.least - 1, told.most + 1, Integer.MIN_VALUE, Integer.MIN_VALUE + 1, Integer.MAX_VALUE, -2 - told.most,
            256, 65536, 65537, 1 << 30, -256, -65536, 1 << 24
        };
        List<Integer> values = new ArrayList<>();
        for (int v : tries) {
            if (v < told.least || v > told.most) {
                values.add(v);
            }
        }
        return values;
    }

    private static int[] with(Call call, int p, int value) {
        int[] a = new int[call.told.length];
        for (int i = 0; i < a.length; i++) {
            a[i] = i == p ? value : Math.max(call.told[i].least, 0);
        }
        return a;
    }

    private static String words(States state, String name, int[] a) {
        StringBuilder s = new StringBuilder(name).append('(');
        for (int i = 0; i < a.length; i++) {
            s.append(i == 0 ? "" : ", ").append(a[i]);
        }
        return s.append(") in state ").append(state).toString();
    }

    private static void refused(States state, String name, Ask ask, int[] a, int answer, int reason) {
        PressedPad x = state.make();
        PressedPad twin = state.make();
        String call = words(state, name, a);
        DUE.sentence("Refused, changing nothing but STATUS");
        DUE.is(call, ask.of(x, a), answer);
        DUE.sentence("STATUS: how many calls were refused as BAD, NO, FULL");
        for (int r = 0; r < 3; r++) {
            DUE.is("status(" + r + ") behind " + call, x.status(r), twin.status(r) + (r == reason ? 1 : 0));
        }
        DUE.sentence("Refused, changing nothing but STATUS");
        DUE.holds(States.trace(x).equals(States.trace(twin)), call + " changed something");
    }

    private static void taken(States state, Call call, int[] a, boolean changesNothing) {
        PressedPad x = state.make();
        String words = words(state, call.name, a);
        int before = x.status(0);
        long answer = call.ask.of(x, a);
        DUE.sentence("BAD -2 a number is not as told");
        DUE.holds(answer != call.bad, words + " answered " + answer + ", but its numbers are as told");
        DUE.is("status(0) behind " + words, x.status(0), before);
        if (changesNothing) {
            DUE.sentence("Nothing is changed by these");
            DUE.holds(States.trace(x).equals(States.trace(state.make())), words + " changed something");
        }
    }

    private static void refusedAsNo() {
        int[] pen = {0, 1, 0};
        refused(States.ALL_TORN, "4 write", (x, a) -> x.write(a[0], a[1], a[2]), pen, -3, NO);
        refused(States.ALL_TORN, "5 tear", (x, a) -> x.tear(), new int[0], -3, NO);
        refused(States.FULL_AND_TORN, "5 tear", (x, a) -> x.tear(), new int[0], -3, NO);
        refused(States.NEW, "6 undo", (x, a) -> x.undo(), new int[0], -3, NO);
        refused(States.NEW, "29 from", (x, a) -> x.from(a[0]), new int[] {0}, -3, NO);
        refused(States.NEW, "29 from", (x, a) -> x.from(a[0]), new int[] {1}, -3, NO);
        refused(States.ONE_SHEET, "29 from", (x, a) -> x.from(a[0]), new int[] {1}, -3, NO);
        refused(States.HALF_TORN, "29 from", (x, a) -> x.from(a[0]), new int[] {0}, -3, NO);
    }

    private static void refusedAsFull() {
        Ask write = (x, a) -> x.write(a[0], a[1], a[2]);
        refused(States.ALL_FULL, "4 write", write, new int[] {0, 1, 0}, -4, FULL);
        refused(States.ALL_FULL, "4 write", write, new int[] {5, 9, 4095}, -4, FULL);
        refused(States.ALL_FULL, "7 word", (x, a) -> x.word(a[0]), new int[] {0}, -4, FULL);
        refused(States.ALL_FULL, "7 word", (x, a) -> x.word(a[0]), new int[] {4095}, -4, FULL);
        refused(States.ALL_FULL, "9 type", (x, a) -> x.type(a[0]), new int[] {0}, -4, FULL);
        refused(States.ALL_FULL, "9 type", (x, a) -> x.type(a[0]), new int[] {127}, -4, FULL);
    }

    /** "Refused .. the first of: BAD; NO; FULL": where two reasons hold, the first is told and only that is counted. */
    private static void theFirstOf() {
        Ask write = (x, a) -> x.write(a[0], a[1], a[2]);
        refused(States.FULL_AND_TORN, "4 write", write, new int[] {0, 1, 0}, -3, NO);
        refused(States.FULL_AND_TORN, "4 write", write, new int[] {6, 1, 0}, -2, BAD);
        refused(States.FULL_AND_TORN, "4 write", write, new int[] {0, 0, 0}, -2, BAD);
        refused(States.FULL_AND_TORN, "4 write", write, new int[] {0, 1, 4096}, -2, BAD);
        refused(States.ALL_FULL, "7 word", (x, a) -> x.word(a[0]), new int[] {4096}, -2, BAD);
        refused(States.ALL_FULL, "9 type", (x, a) -> x.type(a[0]), new int[] {128}, -2, BAD);
        refused(States.NEW, "29 from", (x, a) -> x.from(a[0]), new int[] {2}, -2, BAD);
        refused(States.NEW, "14 about", (x, a) -> x.about(a[0], a[1]), new int[] {0, 6}, -2, BAD);
        refused(States.NEW, "12 of", (x, a) -> x.of(a[0], a[1]), new int[] {4, 4}, -10, BAD);
    }

    private static void tornSheetsOfCopies() {
        Ask copies = (x, a) -> x.copies(a[0], a[1], a[2], a[3]);
        for (int sheets = 0; sheets < 32; sheets++) {
            int[] a = {sheets, 5, 9, 0};
            if ((sheets & 3) != 0) {
                refused(States.HALF_TORN, "23 copies", copies, a, -10, BAD);
            } else {
                DUE.sentence("BAD: a SHEET that is TORN, too: -10");
                DUE.holds(copies.of(States.HALF_TORN.make(), a) != -10, "no torn one is in " + sheets);
            }
        }
        refused(States.ALL_TORN, "23 copies", copies, new int[] {2, 0, 9, 1}, -10, BAD);
        refused(States.ALL_TORN, "23 copies", copies, new int[] {3, 0, 9, 1}, -10, BAD);
    }

    /** NONE, -5 and a FAULT are answers, not refusals: no reason counts them, and they change nothing. */
    private static void notCounted() {
        int[] none = {};
        refused(States.HALF_TORN, "12 of a torn one", (x, a) -> x.of(1, 2), none, -1, COUNTED_NOWHERE);
        refused(States.NEW, "19 lost", (x, a) -> x.lost(0, 0, 0, 1, 1, 0), none, -1, COUNTED_NOWHERE);
        refused(States.NEW, "19 lost", (x, a) -> x.lost(0, 0, 0, 1, 1, 1), none, -1, COUNTED_NOWHERE);
        refused(States.NEW, "20 pen", (x, a) -> x.pen(0, 0, 0, 1, 1), none, -1, COUNTED_NOWHERE);
        refused(States.NEW, "22 press", (x, a) -> x.press(4, 2), none, -1, COUNTED_NOWHERE);
        refused(States.NEW, "23 copies", (x, a) -> x.copies(1, 0, 9, 0), none, -1, COUNTED_NOWHERE);
        refused(States.NEW, "23 copies", (x, a) -> x.copies(2, 0, 2, 1), none, -1, COUNTED_NOWHERE);
        refused(States.ALL_TORN, "25 torn", (x, a) -> x.torn(0), none, -1, COUNTED_NOWHERE);
        refused(States.ONE_SHEET, "25 torn", (x, a) -> x.torn(1), none, -1, COUNTED_NOWHERE);
        refused(States.ALL_TORN, "26 drawn", (x, a) -> x.drawn(0, 20), none, -1, COUNTED_NOWHERE);
        for (States state : States.values()) {
            int n = state.sheets;
            refused(state, "21 orders", (x, a) -> x.orders(n), none, -5, COUNTED_NOWHERE);
            refused(state, "21 orders", (x, a) -> x.orders(Integer.MAX_VALUE), none, -5, COUNTED_NOWHERE);
        }
        refused(States.NEW, "11 read", (x, a) -> x.read(), none, -10, COUNTED_NOWHERE);
        refused(States.ONE_SHEET, "11 read", (x, a) -> x.read(), none, -10, COUNTED_NOWHERE);
    }

    private static void manyRefused() {
        DUE.sentence("STATUS: how many calls were refused as BAD, NO, FULL");
        PressedPad x = States.FULL_AND_TORN.make();
        for (int w = 0; w < 8; w++) {
            x.word(0);
        }
        for (int k = 0; k < 40; k++) {
            x.pad(0);
            x.orders(-2);
            x.tear();
            x.word(1);
            x.status(3);
        }
        DUE.is("status(0)", x.status(0), 120);
        DUE.is("status(1)", x.status(1), 40);
        DUE.is("status(2)", x.status(2), 40);
        DUE.is("status(2) again", x.status(2), 40);
    }
}
