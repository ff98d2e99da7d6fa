import java.util.Random;

/** Runs of drawn calls, each asked of the class and of PadModel; the digest is compared behind each. */
public final class ModelTest {
    private static final int RUNS = 400;
    private static final int CALLS = 512;

    private final Random random;
    private final PressedPad pad = new PressedPad();
    private final PadModel model = new PadModel();
    private String call = "";
    private String typed = "";

    private ModelTest(long seed) {
        random = new Random(seed);
    }

    public static void main(String[] args) {
        int wrong = 0;
        for (int run = 0; run < RUNS && wrong < 10; run++) {
            wrong += new ModelTest(run).run(run) ? 0 : 1;
        }
        System.out.println(wrong == 0 ? "ModelTest: all as due" : "ModelTest: " + wrong + " runs are wrong");
        System.exit(wrong == 0 ? 0 : 1);
    }

    private boolean run(int run) {
        StringBuilder story = new StringBuilder();
        for (int i = 0; i < CALLS; i++) {
            long[] pair = typed.isEmpty() ? next() : typeNext();
            story.append(call).append(' ');
            if (pair[0] != pair[1] || pad.digest() != model.digest()) {
                System.out.println("run " + run + ": " + story + "answered " + pair[0] + ", due is " + pair[1]);
                return false;
            }
        }
        return true;
    }

    /** Mostly as told, now and then just beyond, seldom far out. */
    private int pick(int least, int most) {
        int far = random.nextInt(400);
        if (far == 0) {
            return random.nextInt();
        }
        if (far == 1) {
            return random.nextBoolean() ? Integer.MIN_VALUE : Integer.MAX_VALUE;
        }
        if (far < 12) {
            return random.nextBoolean() ? least - 1 : most + 1;
        }
        return least + random.nextInt(most - least + 1);
    }

    private int cells() {
        int bits = pick(0, 4095);
        return random.nextBoolean() ? bits & random.nextInt(4096) & random.nextInt(4096) : bits;
    }

    private int sheet() {
        return pick(0, model.count(0) - 1);
    }

    private int notes() {
        return pick(0, (1 << model.count(2)) - 1);
    }

    /** What the model is asked by the drawing itself must not tell in its STATUS, so only good calls are asked. */
    private long[] next() {
        int turn = random.nextInt(100);
        if (turn < 45) {
            return change(turn);
        }
        return turn < 75 ? look(random.nextInt(9)) : rest(random.nextInt(13));
    }

    private long[] change(int turn) {
        if (turn < 18) {
            int kind = pick(0, 5);
            int press = pick(1, 9);
            int cells = cells();
            call = "write(" + kind + "," + press + "," + cells + ")";
            return pair(pad.write(kind, press, cells), model.write(kind, press, cells));
        }
        if (turn < 23) {
            call = "tear()";
            return pair(pad.tear(), model.tear());
        }
        if (turn < 28) {
            call = "undo()";
            return pair(pad.undo(), model.undo());
        }
        if (turn < 33) {
            int bits = pick(0, (1 << model.count(0)) - 1);
            call = "carbons(" + bits + ")";
            return pair(pad.carbons(bits), model.carbons(bits));
        }
        if (turn < 37) {
            int bits = cells();
            call = "word(" + bits + ")";
            return pair(pad.word(bits), model.word(bits));
        }
        if (turn < 41) {
            int n = pick(1, 6);
            call = "pad(" + n + ")";
            return random.nextInt(3) > 0 ? look(0) : pair(pad.pad(n), model.pad(n));
        }
        if (turn < 43) {
            call = "forget()";
            return random.nextInt(3) > 0 ? look(1) : pair(pad.forget(), model.forget());
        }
        if (turn < 44) {
            typed = drawText();
        } else if (random.nextBoolean()) {
            int c = pick(0, 127);
            call = "type(" + c + ")";
            return pair(pad.type(c), model.type(c));
        }
        call = "clear()";
        return pair(pad.clear(), model.clear());
    }

    private long[] look(int turn) {
        int s = sheet();
        int note = pick(0, Math.max(0, model.count(2) - 1));
        switch (turn) {
            case 0: {
                int what = pick(0, 3);
                call = "of(" + s + "," + what + ")";
                return pair(pad.of(s, what), model.of(s, what));
            }
            case 1: {
                int cell = pick(0, 11);
                call = "dent(" + s + "," + cell + ")";
                return pair(pad.dent(s, cell), model.dent(s, cell));
            }
            case 2: {
                int what = pick(0, 5);
                call = "about(" + note + "," + what + ")";
                return pair(pad.about(note, what), model.about(note, what));
            }
            case 3:
                call = "whose(" + s + ")";
                return pair(pad.whose(s), model.whose(s));
            case 4:
                call = "own(" + note + "," + s + ")";
                return pair(pad.own(note, s), model.own(note, s));
            case 5: {
                int q = pick(1, 9);
                call = "shown(" + s + "," + q + ")";
                return pair(pad.shown(s, q), model.shown(s, q));
            }
            case 6:
                return lost(s);
            case 7:
                return pen(s);
            default: {
                int i = pick(-1, model.count(0));
                call = "orders(" + i + ")";
                return pair(pad.orders(i), model.orders(i));
            }
        }
    }

    /** A note that is there is mostly the one left out, as else next to nothing would fit. */
    private int knownBut(int note) {
        int all = (1 << model.count(2)) - 1;
        int known = random.nextInt(3) == 0 ? notes() : all;
        return note >= 0 && note < model.count(2) ? known & ~(1 << note) : known;
    }

    private long[] lost(int s) {
        int note = model.count(2) == 0 ? -1 : random.nextInt(model.count(2));
        boolean true1 = note >= 0 && random.nextInt(3) > 0;
        int known = knownBut(note);
        int kind = true1 ? model.about(note, 0) : pick(0, 5);
        int press = true1 ? model.about(note, 1) : pick(1, 9);
        int depth = true1 ? Math.max(0, s - model.about(note, 3)) : pick(0, 5);
        int what = pick(0, 3);
        call = "lost(" + s + "," + known + "," + kind + "," + press + "," + depth + "," + what + ")";
        return pair(pad.lost(s, known, kind, press, depth, what), model.lost(s, known, kind, press, depth, what));
    }

    private long[] pen(int s) {
        int note = model.count(2) == 0 ? -1 : random.nextInt(model.count(2));
        boolean true1 = note >= 0 && random.nextInt(4) > 0;
        int known = knownBut(note);
        int depth = true1 ? Math.max(0, s - model.about(note, 3)) : pick(0, 5);
        int cells = true1 ? model.about(note, 2) : cells();
        int what = pick(0, 1);
        call = "pen(" + s + "," + known + "," + depth + "," + cells + "," + what + ")";
        return pair(pad.pen(s, known, depth, cells, what), model.pen(s, known, depth, cells, what));
    }

    private long[] rest(int turn) {
        int kind = pick(0, 5);
        int press = pick(1, 9);
        int i = pick(0, 1);
        switch (turn) {
            case 0: {
                int depth = pick(0, 5);
                call = "force(" + kind + "," + press + "," + depth + ")";
                return pair(pad.force(kind, press, depth), model.force(kind, press, depth));
            }
            case 1: {
                int depth = pick(1, 5);
                call = "press(" + kind + "," + depth + ")";
                return pair(pad.press(kind, depth), model.press(kind, depth));
            }
            case 2:
            case 3: {
                int bits = pick(0, (1 << model.count(0)) - 1);
                bits = random.nextInt(3) > 0 ? bits & -1 << model.count(1) + 1 : bits;
                call = "copies(" + bits + "," + kind + "," + press + "," + i + ")";
                return pair(pad.copies(bits, kind, press, i), model.copies(bits, kind, press, i));
            }
            case 4: {
                int s = sheet();
                int bits = random.nextBoolean() && s >= 0 && s < model.count(0) ? model.shown(s, 1) : cells();
                call = "rub(" + s + "," + bits + "," + i + ")";
                return pair(pad.rub(s, bits, i), model.rub(s, bits, i));
            }
            case 5: {
                int bits = notes();
                call = "torn(" + bits + ")";
                return pair(pad.torn(bits), model.torn(bits));
            }
            case 6: {
                int seed = pick(0, 999999);
                int n = pick(0, 20);
                call = "drawn(" + seed + "," + n + ")";
                return pair(pad.drawn(seed, n), model.drawn(seed, n));
            }
            case 7:
                call = "part(" + i + ")";
                return pair(pad.part(i), model.part(i));
            case 8:
                call = "image(" + i + ")";
                return pair(pad.image(i), model.image(i));
            case 9:
                call = "from(" + i + ")";
                return pair(pad.from(i), model.from(i));
            case 10: {
                int what = pick(0, 2);
                call = "status(" + what + ")";
                return pair(pad.status(what), model.status(what));
            }
            case 11:
                call = "read()";
                return pair(pad.read(), model.read());
            default: {
                int what = pick(0, 6);
                call = "count(" + what + ")";
                return pair(pad.count(what), model.count(what));
            }
        }
    }

    private long[] typeNext() {
        int c = typed.charAt(0);
        typed = typed.substring(1);
        if (c == '!') {
            call = "read()";
            return pair(pad.read(), model.read());
        }
        call = "type(" + c + ")";
        return pair(pad.type(c), model.type(c));
    }

    /** A text that is as told, then mostly hurt at a place; the ! stands for read(). */
    private String drawText() {
        int n = 1 + random.nextInt(6);
        StringBuilder s = new StringBuilder("pad " + n + ";");
        int items = random.nextInt(14);
        for (int i = 0; i < items; i++) {
            int turn = random.nextInt(8);
            if (turn == 0) {
                s.append("tear").append(random.nextInt(4) == 0 ? " ;" : ";");
            } else if (turn == 1) {
                s.append("carbon ").append(random.nextInt(n)).append(';');
            } else {
                s.append("note ").append(random.nextInt(6)).append(' ').append(1 + random.nextInt(9));
                for (int c = random.nextInt(12); c < 12; c += 1 + random.nextInt(6)) {
                    s.append(' ').append(c < 10 && random.nextInt(9) == 0 ? "0" : "").append(c);
                }
                s.append(random.nextInt(4) == 0 ? "; " : ";");
            }
        }
        if (random.nextInt(3) > 0) {
            hurt(s);
        }
        return s.append('!').toString();
    }

    private void hurt(StringBuilder s) {
        String signs = "   ;;0123456789padnotercb-A{\n\t";
        int at = random.nextInt(s.length());
        int how = random.nextInt(4);
        if (how == 0) {
            s.deleteCharAt(at);
        } else if (how == 1) {
            s.insert(at, signs.charAt(random.nextInt(signs.length())));
        } else if (how == 2) {
            s.setCharAt(at, signs.charAt(random.nextInt(signs.length())));
        } else {
            s.setLength(at);
        }
    }

    private static long[] pair(long got, long due) {
        return new long[] {got, due};
    }
}
