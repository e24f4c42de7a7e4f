import java.util.function.ToIntFunction;

/** "A call that is refused changes nothing": every refused call, in everything the machine can be in. */
public final class RefusedTest {
    private static final int MIN = Integer.MIN_VALUE, MAX = Integer.MAX_VALUE;
    private static final int NEW = 0, STANDS = 1, WRONG = 2, RUNS = 3, RUN_HELD = 4, DWELLS = 5, DWELL_HELD = 6, WAITS = 7, TRIPPED = 8;
    private static final String[] HOWS = {"new", "STANDS", "STANDS with a WRONG LINE", "RUNS", "RUNS and HOLDS", "DWELLS",
        "DWELLS and HOLDS", "WAITS", "TRIPPED"};
    private static final int[] MODES = {0, 0, 0, 1, 1, 2, 2, 3, 4};
    private static final String REST = "X40 Y3 / G1 F300 X60 / G4 P20 / X70 M0 / X80 M2 / X90";
    private static final int[] MOST = {1000, 1000, 1000, 2000, 200, 2000, 6};

    private static int how;

    public static void main(String[] args) {
        for (how = 0; how < HOWS.length; how++) {
            Due.is("the machine " + HOWS[how], made(new Desk()).state(0), MODES[how]);
            Due.is("it HOLDS: " + HOWS[how], made(new Desk()).state(1), how == RUN_HELD || how == DWELL_HELD ? 1 : 0);
            words();
            settings();
            numbers();
            switches();
            acts();
            questions();
        }
        Due.end("RefusedTest");
    }

    /** A machine with settings of its own, switches, and the tool away from 0; then what it is in. */
    private static Desk made(Desk desk) {
        if (how == NEW) return desk;
        int[] sets = {300, 400, 500, 1500, 77, 555, 4};
        for (int what = 0; what < 7; what++) {
            desk.set(what, sets[what]);
        }
        desk.trip(1, 222);
        desk.trip(2, 99);
        Due.load(desk, "X5 Y2 Z3");
        desk.start();
        desk.advance(200);
        String first = how == DWELLS || how == DWELL_HELD ? "G4 P20 / " : how == WAITS ? "X8 M0 / " : "";
        Due.load(desk, how == WRONG ? "X40 / X301 / X50" : first + REST);
        if (how == TRIPPED) desk.trip(0, 9);
        if (how >= RUNS) desk.start();
        if (how >= RUNS) desk.advance(how >= WAITS ? 100 : 9);
        if (how == RUN_HELD || how == DWELL_HELD) desk.hold();
        return desk;
    }

    private static void refused(String call, ToIntFunction<Desk> on, int want) {
        Twins.refused(call + ", " + HOWS[how], RefusedTest::made, on, want);
    }

    private static void bad(String call, ToIntFunction<Desk> on) {
        refused(call, on, MillDesk.BAD);
    }

    private static void words() {
        Due.says("word: BAD if the machine does not STAND, letter is not 0..9, value not -3000..3000, or there is no last LINE");
        int[][] wrong = {{-1, 0}, {10, 0}, {MIN, 0}, {MAX, 0}, {2, 3001}, {2, -3001}, {0, MIN}, {9, MAX}};
        for (int[] w : wrong) {
            bad("word(true, " + w[0] + ", " + w[1] + ")", d -> d.word(true, w[0], w[1]));
            bad("word(false, " + w[0] + ", " + w[1] + ")", d -> d.word(false, w[0], w[1]));
        }
        if (how >= RUNS) bad("word(true, 2, 1)", d -> d.word(true, 2, 1));
        if (how >= RUNS || how == NEW) bad("word(false, 2, 1)", d -> d.word(false, 2, 1));
    }

    private static void set(int what, int v) {
        refused("set(" + what + ", " + v + ")", d -> d.set(what, v) ? 1 : 0, 0);
    }

    private static void settings() {
        Due.says("set: False if it does not STAND, or a number is not as said");
        int[] none = {-1, 7, MIN, MAX};
        for (int what : none) {
            set(what, 1);
        }
        for (int what = 0; what < 7; what++) {
            int least = what == 5 ? 0 : what < 3 && how != NEW ? new int[] {5, 2, 3}[what] : 1;
            set(what, least - 1);
            set(what, MOST[what] + 1);
            set(what, MIN);
            set(what, MAX);
            if (how >= RUNS) set(what, MOST[what]);
        }
    }

    private static void numbers() {
        Due.says("advance answers BAD, and nothing is counted, for a number that is not 0..3000");
        int[] none = {-1, 3001, MIN, MAX};
        for (int n : none) {
            bad("advance(" + n + ")", d -> d.advance(n));
        }
    }

    private static void trip(int axis, int at) {
        refused("trip(" + axis + ", " + at + ")", d -> d.trip(axis, at) ? 1 : 0, 0);
    }

    private static void switches() {
        Due.says("trip: False if axis or at (-1..1000) is not so");
        int[] axes = {-1, 3, MIN, MAX};
        for (int axis : axes) {
            trip(axis, 10);
            trip(axis, -1);
        }
        int[] places = {-2, 1001, MIN, MAX};
        for (int axis = 0; axis < 3; axis++) {
            for (int at : places) {
                trip(axis, at);
            }
        }
    }

    private static void acts() {
        Due.says("clear: False, and nothing changes, if the machine does not STAND");
        if (how >= RUNS) refused("clear", d -> d.clear() ? 1 : 0, 0);
        Due.says("start: False if it does not STAND, there are no LINES, or one is WRONG");
        if (how != STANDS) refused("start", d -> d.start() ? 1 : 0, 0);
        Due.says("hold: False if it does, or STANDS, WAITS or is TRIPPED");
        if (how != RUNS && how != DWELLS) refused("hold", d -> d.hold() ? 1 : 0, 0);
        Due.says("resume: False if it does neither");
        if (how != RUN_HELD && how != DWELL_HELD && how != WAITS) refused("resume", d -> d.resume() ? 1 : 0, 0);
        Due.says("stop: False if it does already");
        if (how <= WRONG) refused("stop", d -> d.stop() ? 1 : 0, 0);
    }

    private static void questions() {
        Due.says("at, state, after, joint: BAD for what is not there");
        int[] axes = {-1, 3, MIN, MAX};
        for (int axis : axes) {
            bad("at(" + axis + ")", d -> d.at(axis));
            bad("after(0, " + axis + ")", d -> d.after(0, axis));
        }
        int[] whats = {-1, 9, MIN, MAX};
        for (int what : whats) {
            bad("state(" + what + ")", d -> d.state(what));
        }
        int[] ends = {-1, 6, MIN, MAX};
        for (int k : ends) {
            bad("joint(" + k + ")", d -> d.joint(k));
        }
        if (how != RUNS && how != RUN_HELD && how != TRIPPED) bad("joint(0)", d -> d.joint(0));
        // The LINES are 3 with a WRONG one, else 6 or 7, of which the last stands behind END.
        int[] lines = {-1, how == NEW ? 0 : how == WRONG ? 1 : 5 + (how >= DWELLS && how <= WAITS ? 1 : 0), 29, 30, MIN, MAX};
        for (int line : lines) {
            bad("after(" + line + ", 0)", d -> d.after(line, 0));
        }
        Due.says("check, after, at, state and joint only tell");
        refused("check", d -> d.check(), how == WRONG ? 16 : 0);
        refused("after(0, 0)", d -> d.after(0, 0), how == NEW ? -1 : how == WAITS ? 8 : how == DWELLS || how == DWELL_HELD ? 5 : 40);
        refused("at(0)", d -> d.at(0), how == NEW ? 0 : how == WAITS ? 8 : how == TRIPPED ? 9 : how == RUNS || how == RUN_HELD ? 8 : 5);
        refused("advance(0)", d -> d.advance(0), 0);
    }
}
