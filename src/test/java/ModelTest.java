import java.util.Random;

/** Runs of calls from fixed seeds: the program and the model answer alike. */
public final class ModelTest {
    private static final int RUNS = 10000;
    private static final int CALLS = 480;
    private static final int[] CODES = {0, 1, 2, 3, 4, 17, 18, 19, 20, 21, 28, 53, 54, 55, 90, 91, 92};
    private static final int[][] TURNS = {{5, 0}, {0, 5}, {3, 4}, {4, 3}, {-3, 4}, {-5, 0}, {0, -5}, {4, -3},
        {-4, -3}, {3, -4}, {1, 0}, {0, -1}, {1, 1}, {-2, 1}, {7, 24}, {15, -20}, {20, 15}};

    private final Random random;
    private final Desk desk = new Desk();
    private final Model model = new Model();
    private final int run;
    private final StringBuilder told = new StringBuilder();
    private int calls = 0;
    private boolean same = true;

    private ModelTest(int run) {
        this.run = run;
        random = new Random(run);
    }

    public static void main(String[] args) {
        int[] seen = new int[5];
        for (int run = 0; run < RUNS; run++) {
            ModelTest test = new ModelTest(run);
            test.all();
            seen[test.desk.state(0)]++;
        }
        for (int mode = 0; mode < 5; mode++) {
            Due.yes("runs that end in state " + mode, seen[mode] > 0);
        }
        Due.end("ModelTest");
    }

    private void all() {
        if (chance(2)) settings();
        while (same && calls < CALLS) {
            if (model.state(0) == 0 && (model.check() != 0 || chance(4))) {
                program();
            } else {
                act();
            }
        }
    }

    private boolean chance(int of) {
        return random.nextInt(of) == 0;
    }

    private void answer(String call, int got, int want) {
        calls++;
        told.append(call).append(' ').append(want).append("; ");
        if (got == want) {
            Due.is(call, got, want);
        } else {
            same = false;
            Due.is("run " + run + ": " + told, got, want);
        }
    }

    private void answer(String call, boolean got, boolean want) {
        answer(call, got ? 1 : 0, want ? 1 : 0);
    }

    // ---- programs ----

    private void settings() {
        set(3, chance(2) ? 2000 : 1 + random.nextInt(2000));
        set(4, chance(2) ? 200 : 1 + random.nextInt(200));
        set(5, random.nextInt(2001));
        set(6, 1 + random.nextInt(6));
        if (chance(4)) set(random.nextInt(3), 70 + random.nextInt(60));
    }

    private void set(int what, int v) {
        answer("set(" + what + ", " + v + ")", desk.set(what, v), model.set(what, v));
    }

    private void word(boolean fresh, int letter, int value) {
        answer("word(" + fresh + ", " + letter + ", " + value + ")",
            desk.word(fresh, letter, value), model.word(fresh, letter, value));
    }

    private void program() {
        if (!chance(8)) answer("clear()", desk.clear(), model.clear());
        // Most programs go away from the edges first, so that few of their ways lead outside.
        word(true, 2, 30 + random.nextInt(30));
        word(false, 3, 30 + random.nextInt(30));
        word(false, 4, 30 + random.nextInt(30));
        if (!chance(8)) word(false, 8, chance(3) ? 1000 : 50 + random.nextInt(950));
        int lines = 1 + random.nextInt(12);
        for (int i = 0; i < lines && calls < CALLS; i++) {
            line();
            if (chance(40)) word(false, random.nextInt(10), random.nextInt(100) - 20);
        }
        answer("check()", desk.check(), model.check());
    }

    private void line() {
        switch (random.nextInt(16)) {
            case 0:
                word(true, 0, 4);
                word(false, 9, chance(3) ? 0 : random.nextInt(30));
                break;
            case 1:
                word(true, 1, chance(4) ? 2 : 0);
                break;
            case 2:
                word(true, 0, 90);
                word(false, 0, chance(4) ? 28 : 92);
                word(false, 2 + random.nextInt(3), 20 + random.nextInt(30));
                break;
            case 3:
                word(true, 0, random.nextInt(2));
                word(false, 0, 90);
                word(false, 0, 53);
                axes(false);
                break;
            case 4:
                word(true, 0, CODES[random.nextInt(CODES.length)]);
                if (chance(2)) word(false, 8, random.nextInt(1100) - 10);
                break;
            case 5:
            case 6:
            case 7:
                turn();
                break;
            case 8:
                word(true, 0, 54 + random.nextInt(2));
                if (chance(4)) word(false, 0, 20 + random.nextInt(2));
                break;
            default:
                word(true, 0, random.nextInt(2));
                if (chance(3)) word(false, 8, 1 + random.nextInt(1000));
                boolean further = chance(3);
                word(false, 0, further ? 91 : 90);
                axes(further);
                if (chance(12)) word(false, 1, 0);
                break;
        }
    }

    private void axes(boolean further) {
        int which = 1 + random.nextInt(7);
        for (int axis = 0; axis < 3; axis++) {
            if ((which >> axis & 1) != 0) {
                int most = chance(2) ? 5 : 40;
                word(false, 2 + axis, further ? random.nextInt(2 * most) / 2 - most / 2 : 30 + random.nextInt(most));
            }
        }
    }

    /** A ROUND way, once round or to a place that is as far from the centre. */
    private void turn() {
        int plane = random.nextInt(3);
        int first = plane == 0 ? 0 : plane == 1 ? 2 : 1;
        int second = plane == 0 ? 1 : plane == 1 ? 0 : 2;
        int[] turn = TURNS[random.nextInt(TURNS.length)];
        word(true, 0, 17 + plane);
        word(false, 0, 2 + random.nextInt(2));
        word(false, 5 + first, turn[0]);
        word(false, 5 + second, turn[1]);
        if (chance(3)) return;
        // From the start to the centre, then on to another corner as far from it.
        int u = chance(2) ? turn[0] : -turn[0];
        int v = chance(2) ? turn[1] : -turn[1];
        boolean swap = chance(2);
        word(false, 0, 91);
        word(false, 2 + first, turn[0] + (swap ? v : u));
        word(false, 2 + second, turn[1] + (swap ? u : v));
        if (chance(12)) word(false, 2 + random.nextInt(3), 1);
    }

    // ---- acts ----

    private void act() {
        int pick = random.nextInt(20);
        if (pick < 3) {
            answer("start()", desk.start(), model.start());
        } else if (pick < 11) {
            int n = chance(40) ? random.nextInt(4000) - 500 : random.nextInt(chance(3) ? 60 : 6);
            answer("advance(" + n + ")", desk.advance(n), model.advance(n));
            ask();
        } else if (pick == 11) {
            if (chance(2)) answer("hold()", desk.hold(), model.hold());
        } else if (pick < 14) {
            answer("resume()", desk.resume(), model.resume());
        } else if (pick == 14) {
            if (chance(4)) answer("stop()", desk.stop(), model.stop());
            else if (model.state(0) == 4) answer("stop()", desk.stop(), model.stop());
        } else if (pick == 15) {
            int axis = random.nextInt(5) - 1;
            int at = chance(2) ? -1 : 30 + random.nextInt(60);
            if (chance(4)) answer("trip(" + axis + ", " + at + ")", desk.trip(axis, at), model.trip(axis, at));
        } else if (pick == 16) {
            int line = random.nextInt(14) - 1;
            int axis = random.nextInt(3);
            answer("after(" + line + ", " + axis + ")", desk.after(line, axis), model.after(line, axis));
        } else if (pick == 17) {
            answer("check()", desk.check(), model.check());
        } else if (pick == 18) {
            set(random.nextInt(8), random.nextInt(250));
        } else {
            int k = random.nextInt(8) - 1;
            answer("joint(" + k + ")", desk.joint(k), model.joint(k));
        }
    }

    /** Asks about some of what can be asked; an object is good for 512 calls. */
    private void ask() {
        boolean much = chance(6);
        for (int axis = 0; axis < 3; axis++) {
            if (much || chance(6)) answer("at(" + axis + ")", desk.at(axis), model.at(axis));
        }
        for (int what = 0; what < 9; what++) {
            if (much || chance(6)) answer("state(" + what + ")", desk.state(what), model.state(what));
        }
        for (int k = 0; k < 6; k++) {
            if (much || chance(12)) answer("joint(" + k + ")", desk.joint(k), model.joint(k));
        }
    }
}
