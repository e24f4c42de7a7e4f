/** Promises 1 to 15: the last number that each call takes and the first that it refuses, on each side. */
public final class CallEdgeTest {
    private static final int[] LEAST = {1, 1, 1, 1, 1, 0, 1}, MOST = {1000, 1000, 1000, 2000, 200, 2000, 6};
    private static final String[] AXES = {"X", "Y", "Z"};
    private static final String ONES = "X1 / X2 / X3 / X4 / X5 / X6 / X7 / X8 / X9 / X10";
    private static final int RUNS = 1, DWELLS = 2, WAITS = 3, TRIPPED = 4;

    public static void main(String[] args) {
        newObject();
        clearing();
        wordLetters();
        wordValues();
        wordCounts();
        wordOfTheLastLine();
        noLastLine();
        fullLine();
        fullProgram();
        settingEdges();
        settingsApart();
        limitEdges();
        limitFromTheTool();
        fastestEdges();
        gainEdges();
        bendEdges();
        aheadEdges();
        settingsWhileBusy();
        checkEdges();
        checkWhileBusy();
        startEdges();
        advanceEdges();
        holdEdges();
        resumeEdges();
        stopEdges();
        tripEdges();
        tripPlaces();
        atEdges();
        stateEdges();
        stateWhats();
        afterEdges();
        afterWrongOrEnd();
        jointEdges();
        jointBehindNone();
        jointWithoutBlock();
        Due.end("CallEdgeTest");
    }

    /** A machine that is as state(0) tells. */
    private static Desk busy(int mode) {
        Desk desk = Due.with(mode == DWELLS ? "G4 P9 / X9" : mode == WAITS ? "M0 / X9" : "X9");
        if (mode == TRIPPED) desk.trip(0, 1);
        desk.start();
        if (mode == TRIPPED) desk.advance(100);
        Due.is("busy", desk.state(0), mode);
        return desk;
    }

    // ---- promise 1 ----

    private static void newObject() {
        Due.says("MillDesk(): No LINES, LIMITS 1000, FASTEST 800, GAIN 20, BEND 400, AHEAD 3; it STANDS");
        Desk desk = new Desk();
        Due.state("new", desk, 0, 0, 0, -1, 0, 0, 0, 0, 0);
        Due.is("no LINE", desk.word(false, 2, 1), MillDesk.BAD);
        Due.is("nothing to check", desk.check(), 0);
        int[] defaults = {1000, 1000, 1000, 800, 20, 400, 3};
        Twins.same("a new object, and one to which all this is said", d -> { }, d -> {
            for (int what = 0; what < 7; what++) {
                Due.yes("set", d.set(what, defaults[what]));
            }
            for (int axis = 0; axis < 3; axis++) {
                Due.yes("trip", d.trip(axis, -1));
            }
            Due.yes("clear", d.clear());
        });
        Desk joints = Due.started("X1 / X2 Y2 / Y4");
        Due.is("BEND 400", joints.joint(0), 400);
        Due.is("FASTEST 800", Due.started("X1 / X2").joint(0), 800);
        Due.paces("GAIN 20", Due.started("X100"), 20, 40);
        Due.check("X1000 Y1000 Z1000", 0);
        Due.check("X1001", 6);
        Due.check("Y1001", 6);
        Due.check("Z1001", 6);
    }

    // ---- promise 2 ----

    private static void clearing() {
        Due.says("clear: The PROGRAM has no LINES then");
        Twins.same("a program that is cleared, and none", d -> {
            Due.load(d, "X5 Y6 / G2 F9 / G5");
            Due.yes("clear", d.clear());
        }, d -> { });
        Twins.same("what is not of the PROGRAM stays", d -> {
            d.set(3, 500);
            d.trip(0, 77);
            Due.load(d, "X5");
            d.start();
            d.advance(100);
            Due.yes("clear", d.clear());
            Due.yes("clear again", d.clear());
        }, d -> {
            d.set(3, 500);
            d.trip(0, 77);
            Due.load(d, "X5 M2 / G5");
            d.start();
            d.advance(100);
            Due.yes("clear", d.clear());
        });
        Desk desk = Due.with("X5 Y6");
        desk.clear();
        Due.is("a new LINE 0", desk.word(true, 4, 1), 1);
        Due.is("none of the words before", desk.after(0, 0), 0);
        for (int mode = RUNS; mode <= TRIPPED; mode++) {
            Desk busy = busy(mode);
            Due.no("clear of a machine that does not STAND", busy.clear());
            busy.stop();
            Due.is("its LINES are there", busy.after(mode == DWELLS || mode == WAITS ? 1 : 0, 0), 9);
        }
    }

    // ---- promise 3 ----

    private static void wordLetters() {
        Due.says("word: BAD if letter is not 0..9");
        for (int letter = -2; letter <= 11; letter++) {
            Desk desk = new Desk();
            boolean taken = letter >= 0 && letter <= 9;
            Due.is("letter " + letter, desk.word(true, letter, 0), taken ? 1 : MillDesk.BAD);
            Due.is("a word behind letter " + letter, desk.word(false, 1, 0), taken ? 2 : MillDesk.BAD);
        }
        Desk desk = Due.with("X1");
        Due.is("letter 9", desk.word(false, 9, 0), 2);
        Due.is("letter 10", desk.word(false, 10, 0), MillDesk.BAD);
        Due.is("letter 0", desk.word(false, 0, 0), 3);
        Due.is("letter -1", desk.word(false, -1, 0), MillDesk.BAD);
        Due.is("the words that were taken", desk.word(false, 3, 0), 4);
    }

    private static void wordValues() {
        Due.says("word: BAD if value not -3000..3000");
        int[][] values = {{-3001, 0}, {-3000, 1}, {-2999, 1}, {0, 1}, {2999, 1}, {3000, 1}, {3001, 0},
            {Integer.MIN_VALUE, 0}, {Integer.MAX_VALUE, 0}};
        for (int[] v : values) {
            for (int letter = 0; letter < 10; letter++) {
                Desk desk = Due.with("M0");
                Due.is("a fresh " + letter + " " + v[0], desk.word(true, letter, v[0]), v[1] == 1 ? 1 : MillDesk.BAD);
                Due.is("another " + letter + " " + v[0], desk.word(false, letter, v[0]), v[1] == 1 ? 2 : MillDesk.BAD);
            }
        }
        // The greatest ints come through as they are.
        Due.leads("G92 X-3000 / X-2000 / X-3000 / G92 X3000 / X3000", 0, 0, 0, 1000, 0, 0, 0, 0, 0, 0, 0, 0, 0, 0, 0);
    }

    private static void wordCounts() {
        Due.says("word: how many that LINE has then");
        Desk desk = new Desk();
        for (int line = 0; line < 3; line++) {
            for (int i = 1; i <= 8; i++) {
                Due.is("word " + i + " of LINE " + line, desk.word(i == 1, 1, 0), i);
            }
        }
        Due.is("the first of a new LINE", desk.word(true, 1, 0), 1);
        Due.is("the second", desk.word(false, 1, 0), 2);
    }

    private static void wordOfTheLastLine() {
        Due.says("word: Another word, of the last LINE, or (fresh) of a new one");
        Due.leads("X1 Y1 / X2 / Z3", 1, 1, 0, 2, 1, 0, 2, 1, 3);
        Desk desk = Due.with("X1 / X2");
        Due.is("of the last", desk.word(false, 3, 5), 2);
        Due.is("not of the first", desk.after(0, 1), 0);
        Due.is("of the last", desk.after(1, 1), 5);
        desk.start();
        desk.advance(3000);
        Due.is("of the last behind a run", desk.word(false, 4, 6), 3);
        Due.is("of the last behind a run", desk.after(1, 2), 6);
    }

    private static void noLastLine() {
        Due.says("word: BAD if there is no last LINE");
        Desk desk = new Desk();
        Due.is("at first", desk.word(false, 2, 1), MillDesk.BAD);
        Due.is("a fresh one", desk.word(true, 2, 1), 1);
        Due.is("then there is one", desk.word(false, 3, 1), 2);
        desk.clear();
        Due.is("cleared", desk.word(false, 2, 1), MillDesk.BAD);
        Due.is("a fresh one", desk.word(true, 2, 1), 1);
        // A fresh word that is refused makes none.
        desk.clear();
        desk.word(true, 10, 1);
        Due.is("behind a refused one", desk.word(false, 2, 1), MillDesk.BAD);
    }

    private static void fullLine() {
        Due.says("word: FULL for a ninth word");
        Desk desk = Due.with("G0 G17 G20 G90 G54 F5 X1 Y1");
        for (int letter = 0; letter < 10; letter++) {
            Due.is("a ninth, " + letter, desk.word(false, letter, 1), MillDesk.FULL);
        }
        Due.is("the LINE is as it was", desk.after(0, 0), 5);
        Due.is("another LINE", desk.word(true, 4, 1), 1);
        Due.is("has room", desk.word(false, 3, 3), 2);
        Due.is("its words are its own", desk.after(1, 1), 15);
        Due.is("the LINE before is as it was", desk.after(0, 1), 5);
    }

    private static void fullProgram() {
        Due.says("word: FULL for a LINE too many");
        Desk desk = new Desk();
        for (int i = 0; i < 30; i++) {
            Due.is("LINE " + i, desk.word(true, 2, i), 1);
        }
        Due.is("LINE 30", desk.word(true, 2, 500), MillDesk.FULL);
        Due.is("LINE 29 is as it was", desk.after(29, 0), 29);
        for (int i = 2; i <= 8; i++) {
            Due.is("the last LINE has room", desk.word(false, 1, 1), i);
        }
        Due.is("a ninth word of the last LINE", desk.word(false, 1, 1), MillDesk.FULL);
        Due.is("LINE 30", desk.word(true, 2, 500), MillDesk.FULL);
        desk.clear();
        Due.is("room again", desk.word(true, 2, 5), 1);
        Due.is("LINE 0", desk.after(0, 0), 5);
        Due.is("no other", desk.after(1, 0), MillDesk.BAD);
    }

    // ---- promise 4 ----

    private static void settingEdges() {
        Due.says("set: False if a number is not as said");
        for (int what = 0; what < 7; what++) {
            Desk desk = new Desk();
            Due.no(what + " below", desk.set(what, LEAST[what] - 1));
            Due.yes(what + " least", desk.set(what, LEAST[what]));
            Due.yes(what + " most", desk.set(what, MOST[what]));
            Due.no(what + " above", desk.set(what, MOST[what] + 1));
            Due.yes(what + " between", desk.set(what, LEAST[what] + 1));
            Due.yes(what + " between", desk.set(what, MOST[what] - 1));
        }
        Desk desk = new Desk();
        int[] values = {-1, 0, 1, 6, 200, 1000, 2000};
        for (int v : values) {
            Due.no("set(-1, " + v + ")", desk.set(-1, v));
            Due.no("set(7, " + v + ")", desk.set(7, v));
            Due.no("set(8, " + v + ")", desk.set(8, v));
        }
    }

    private static void settingsApart() {
        Due.says("set: Sets 0, 1, 2 the LIMIT of an axis, 3 FASTEST, 4 GAIN, 5 BEND, 6 AHEAD (each that alone)");
        int[] values = {300, 400, 500, 1500, 77, 555, 2};
        for (int last = 0; last < 7; last++) {
            int late = last;
            Twins.same("setting " + late + " last, and in order", d -> {
                for (int what = 0; what < 7; what++) {
                    if (what != late) d.set(what, values[what]);
                }
                Due.yes("set " + late, d.set(late, values[late]));
            }, d -> {
                for (int what = 0; what < 7; what++) {
                    d.set(what, values[what]);
                }
            });
        }
    }

    private static void limitEdges() {
        Due.says("set: 0, 1, 2 the LIMIT of an axis (.., 1 at least, to 1000)");
        for (int axis = 0; axis < 3; axis++) {
            Desk desk = new Desk();
            int[] limits = {1, 2, 999, 1000};
            for (int limit : limits) {
                Due.yes("LIMIT " + limit, desk.set(axis, limit));
                Due.no("LIMIT 0", desk.set(axis, 0));
                Due.no("LIMIT 1001", desk.set(axis, 1001));
                Due.check("LIMIT " + limit, desk, AXES[axis] + limit, 0);
                Due.check("LIMIT " + limit, desk, AXES[axis] + (limit + 1), 6);
                Due.check("LIMIT " + limit, desk, AXES[(axis + 1) % 3] + "1000 " + AXES[(axis + 2) % 3] + "1000", 0);
            }
        }
    }

    private static void limitFromTheTool() {
        Due.says("set: the LIMIT of an axis (from where the tool is, 1 at least)");
        int[] places = {0, 1, 2, 7, 999, 1000};
        for (int axis = 0; axis < 3; axis++) {
            for (int place : places) {
                Desk desk = Due.with(AXES[axis] + place);
                desk.set(3, 2000);
                desk.set(4, 200);
                desk.start();
                desk.advance(3000);
                Due.is("there", desk.at(axis), place);
                int least = place == 0 ? 1 : place;
                Due.no("a LIMIT below " + least, desk.set(axis, least - 1));
                Due.check("the LIMIT 1000 stays", desk, AXES[axis] + 1000, 0);
                Due.yes("the LIMIT " + least, desk.set(axis, least));
                Due.check("LIMIT " + least, desk, AXES[axis] + least, 0);
                Due.check("LIMIT " + least, desk, AXES[axis] + (least + 1), 6);
                Due.yes("the LIMIT of another axis", desk.set((axis + 1) % 3, 1));
                Due.yes("the LIMIT 1000 again", desk.set(axis, 1000));
            }
        }
    }

    private static Desk withSetting(String program, int what, int v) {
        Desk desk = Due.with(program);
        Due.yes("set(" + what + ", " + v + ")", desk.set(what, v));
        Due.no("set above", desk.set(what, MOST[what] + 1));
        Due.no("set below", desk.set(what, LEAST[what] - 1));
        Due.yes("start", desk.start());
        return desk;
    }

    private static void fastestEdges() {
        Due.says("set: 3 FASTEST (1..2000)");
        Due.is("1", withSetting("X1 / X2", 3, 1).joint(0), 1);
        Due.paces("1", withSetting("X1 / X2", 3, 1), 1, 1, 1);
        Due.is("2000", withSetting("X1 / X2", 3, 2000).joint(0), 2000);
        Due.is("1999", withSetting("X1 / X2", 3, 1999).joint(0), 1999);
        Desk desk = withSetting("X1000", 3, 2000);
        desk.advance(99);
        Due.paces("2000", desk, 2000, 2000);
    }

    private static void gainEdges() {
        Due.says("set: 4 GAIN (1..200)");
        Due.paces("1", withSetting("X9", 4, 1), 1, 2, 3);
        Due.paces("2", withSetting("X9", 4, 2), 2, 4, 6);
        Due.paces("199", withSetting("X9", 4, 199), 199, 398, 597);
        Due.paces("200", withSetting("X9", 4, 200), 200, 400, 600);
        Desk held = withSetting("X9", 4, 200);
        held.advance(3);
        held.hold();
        Due.paces("200 down", held, 400, 200, 0);
    }

    private static void bendEdges() {
        Due.says("set: 5 BEND (0..2000)");
        // c 1, m 2: just BEND; c 1, m 10: a ninth of it.
        int[] bends = {0, 1, 799, 800, 1999, 2000};
        for (int bend : bends) {
            Due.is("BEND " + bend, withSetting("X1 / X2 Y2", 5, bend).joint(0), bend < 800 ? bend : 800);
            Due.is("BEND " + bend, withSetting("X1 / X2 Y10", 5, bend).joint(0), bend / 9);
        }
        Due.is("in line BEND does not count", withSetting("X1 / X2", 5, 0).joint(0), 800);
    }

    private static void aheadEdges() {
        Due.says("set: 6 AHEAD (1..6)");
        // How fast it gets with BLOCKS of one STEP; behind each number the pace is bounded by that many ends.
        // 3: 3000 to the third end is just 1000 + 800 + .. + 200; 4: 4000 is more than 1166 + 966 + .. + 166, 3996;
        // 5: 4800 is more than 1285 + 1085 + .. + 85, 4795.
        int[][] paces = {{200, 400, 300, 100}, {200, 400, 600, 750, 550}, {200, 400, 600, 800, 1000, 1000},
            {200, 400, 600, 800, 1000, 1166}, {200, 400, 600, 800, 1000, 1200, 1285}, {200, 400, 600, 800, 1000, 1200, 1400, 1371}};
        for (int ahead = 1; ahead <= 6; ahead++) {
            Desk desk = Due.with(ONES + " / X11 / X12 / X13 / X14");
            desk.set(3, 2000);
            desk.set(4, 200);
            Due.yes("AHEAD " + ahead, desk.set(6, ahead));
            Due.no("AHEAD 0", desk.set(6, 0));
            Due.no("AHEAD 7", desk.set(6, 7));
            desk.start();
            Due.paces("AHEAD " + ahead, desk, paces[ahead - 1]);
        }
    }

    private static void settingsWhileBusy() {
        Due.says("set: False if it does not STAND");
        for (int mode = RUNS; mode <= TRIPPED; mode++) {
            for (int what = 0; what < 7; what++) {
                Desk desk = busy(mode);
                Due.no("set " + what + " while " + mode, desk.set(what, MOST[what]));
                Due.no("set " + what + " while " + mode, desk.set(what, what < 3 ? 500 : LEAST[what]));
                desk.stop();
                Due.yes("set " + what + " when it STANDS", desk.set(what, MOST[what]));
            }
        }
    }

    // ---- promises 5 and 6 ----

    private static void checkEdges() {
        Due.says("check: 0 if no LINE is WRONG, else 10 times the first such LINE, and why; as if the PROGRAM began where the tool is");
        Desk desk = Due.with("G91 X500");
        Due.is("from 0", desk.check(), 0);
        desk.start();
        desk.advance(3000);
        Due.is("at 500", desk.at(0), 500);
        Due.is("from 500", desk.check(), 0);
        desk.start();
        desk.advance(3000);
        Due.is("from 1000", desk.check(), 6);
        Due.no("start from 1000", desk.start());
        desk.word(true, 2, 1);
        Due.is("the first of two", desk.check(), 6);
        Due.load(desk, "X999 / G91 X1 / X1");
        Due.is("by the third", desk.check(), 26);
        Due.load(desk, "X999 / G91 X1 / X0");
        Due.is("by none", desk.check(), 0);
    }

    private static void checkWhileBusy() {
        Due.says("check: (while it does not STAND: where it did begin)");
        // From 0 it is just within the LIMIT, from anywhere on its way it would not be.
        String[] programs = {"G91 X1000", "G91 X400 / G4 P50 / X600", "G91 X400 M0 / X600", "G91 X1000"};
        for (int mode = RUNS; mode <= TRIPPED; mode++) {
            Desk desk = Due.with(programs[mode - 1]);
            desk.set(3, 2000);
            desk.set(4, 200);
            if (mode == TRIPPED) desk.trip(0, 300);
            Due.is("before", desk.check(), 0);
            desk.start();
            desk.advance(50);
            for (int i = 0; i < 300 && desk.state(0) != mode; i++) {
                desk.advance(1);
            }
            Due.is("while " + mode, desk.state(0), mode);
            Due.yes("on its way", desk.at(0) > 0);
            Due.is("check while " + mode, desk.check(), 0);
            Due.is("after while " + mode, desk.after(mode == DWELLS ? 2 : mode == WAITS ? 1 : 0, 0), 1000);
            int place = desk.at(0);
            desk.stop();
            Due.is("check when it STANDS", desk.check(), mode == DWELLS ? 26 : mode == WAITS ? 16 : 6);
            Due.is("after when it STANDS", desk.after(0, 0), mode == DWELLS || mode == WAITS ? place + 400 : MillDesk.BAD);
        }
    }

    private static void startEdges() {
        Due.says("start: False if it does not STAND, there are no LINES, or one is WRONG");
        Due.no("no LINES", new Desk().start());
        Desk cleared = Due.with("X1");
        cleared.clear();
        Due.no("no LINES any more", cleared.start());
        Due.yes("one LINE", Due.with("X1").start());
        Due.no("the last of three is WRONG", Due.with("X1 / X2 / X1001").start());
        Due.no("the first of three is WRONG", Due.with("X-1 / X2 / X3").start());
        Due.yes("a WRONG one behind END", Due.with("X1 / M2 / X1001").start());
        for (int mode = RUNS; mode <= TRIPPED; mode++) {
            Desk desk = busy(mode);
            Due.no("start while " + mode, desk.start());
            Due.is("still " + mode, desk.state(0), mode);
            desk.stop();
            Due.yes("start when it STANDS", desk.start());
        }
    }

    // ---- promises 7 to 10 ----

    private static void advanceEdges() {
        Due.says("advance: n ticks, 0..3000: how many STEPS were done in them; BAD for another n");
        int[][] ns = {{-1, 0}, {0, 1}, {1, 1}, {2999, 1}, {3000, 1}, {3001, 0}};
        for (int[] n : ns) {
            Desk desk = new Desk();
            Due.is("advance(" + n[0] + ")", desk.advance(n[0]), n[1] == 1 ? 0 : MillDesk.BAD);
            Due.is("ticks of advance(" + n[0] + ")", desk.state(8), n[1] == 1 ? n[0] : 0);
        }
        Desk slow = Due.with("X5");
        slow.set(3, 1);
        slow.start();
        Due.is("3000 ticks of pace 1", slow.advance(3000), 3);
        Due.is("2999 ticks of pace 1", slow.advance(1999), 1);
        Due.is("the last tick", slow.advance(1), 1);
        Due.is("it STANDS", slow.state(0), 0);
        Desk fast = Due.quick("X1000");
        Due.is("all STEPS of a long way", fast.advance(3000), 1000);
        Desk part = Due.quick("X5");
        Due.is("5 ticks", part.advance(5), 3);
        Due.is("0 ticks", part.advance(0), 0);
        Due.is("4 ticks", part.advance(4), 2);
    }

    private static void holdEdges() {
        Due.says("hold: It HOLDS from now on. False if it does, or STANDS, WAITS or is TRIPPED");
        for (int mode = 0; mode <= TRIPPED; mode++) {
            Desk desk = mode == 0 ? Due.with("X9") : busy(mode);
            boolean may = mode == RUNS || mode == DWELLS;
            Due.is("hold while " + mode, desk.hold() ? 1 : 0, may ? 1 : 0);
            Due.is("it HOLDS while " + mode, desk.state(1), may ? 1 : 0);
            Due.no("hold again while " + mode, desk.hold());
            Due.is("it HOLDS while " + mode, desk.state(1), may ? 1 : 0);
        }
    }

    private static void resumeEdges() {
        Due.says("resume: It HOLDS no more, or (WAITING) goes on. False if it does neither");
        for (int mode = 0; mode <= TRIPPED; mode++) {
            Desk desk = mode == 0 ? Due.with("X9") : busy(mode);
            Due.is("resume while " + mode, desk.resume() ? 1 : 0, mode == WAITS ? 1 : 0);
            Due.is("then", desk.state(0), mode == WAITS ? RUNS : mode);
            Due.no("resume again", desk.resume());
            boolean held = desk.hold();
            Due.is("resume of what HOLDS", desk.resume() ? 1 : 0, held ? 1 : 0);
            Due.is("it HOLDS no more", desk.state(1), 0);
            Due.no("resume again", desk.resume());
        }
    }

    private static void stopEdges() {
        Due.says("stop: It STANDS, where the tool is, with pace 0, and does not HOLD. False if it does already");
        Due.no("a new one", new Desk().stop());
        for (int mode = RUNS; mode <= TRIPPED; mode++) {
            for (int held = 0; held < 2; held++) {
                Desk desk = busy(mode);
                if (mode == RUNS) desk.advance(15);
                if (held == 1) desk.hold();
                int x = desk.at(0);
                int steps = desk.state(7);
                int ticks = desk.state(8);
                Due.yes("stop while " + mode, desk.stop());
                Due.state("stopped while " + mode, desk, 0, 0, 0, -1, 0, 0, 0, steps, ticks);
                Due.at("where it was", desk, x, 0, 0);
                Due.no("stop again", desk.stop());
                Due.is("nothing goes on", desk.advance(100), 0);
                Due.at("where it was", desk, x, 0, 0);
            }
        }
        Desk ended = Due.quick("X1");
        ended.advance(4);
        Due.no("at its end it STANDS already", ended.stop());
    }

    // ---- promise 11 ----

    private static void tripEdges() {
        Due.says("trip: False if axis or at (-1..1000) is not so");
        Desk desk = new Desk();
        for (int axis = -2; axis <= 4; axis++) {
            boolean there = axis >= 0 && axis <= 2;
            int[][] places = {{-2, 0}, {-1, 1}, {0, 1}, {1, 1}, {999, 1}, {1000, 1}, {1001, 0}};
            for (int[] place : places) {
                Due.is("trip(" + axis + ", " + place[0] + ")", desk.trip(axis, place[0]) ? 1 : 0, there ? place[1] : 0);
            }
        }
        Desk limited = new Desk();
        limited.set(0, 5);
        Due.yes("a place behind the LIMIT", limited.trip(0, 1000));
        for (int mode = RUNS; mode <= TRIPPED; mode++) {
            Due.yes("trip while " + mode, busy(mode).trip(0, 5));
            Due.no("trip while " + mode, busy(mode).trip(0, 1001));
        }
    }

    private static void tripPlaces() {
        Due.says("trip: a STEP that brings it to that place, at, makes the machine TRIPPED; at -1: none (at first)");
        int[] places = {1, 2, 999, 1000};
        for (int axis = 0; axis < 3; axis++) {
            for (int place : places) {
                Desk desk = Due.with(AXES[axis] + 1000);
                desk.set(3, 2000);
                desk.set(4, 200);
                desk.trip(axis, place);
                desk.start();
                Due.is("STEPS up to " + place, desk.advance(3000), place);
                Due.state("TRIPPED at " + place, desk, 4, 0, 0, 0, place, 1000 - place, 0, place, 3000);
                Due.is("at " + place, desk.at(axis), place);
                Due.is("nothing more is done", desk.advance(3000), 0);
                Due.yes("until stop", desk.stop());
                desk.trip(axis, 0);
                Due.load(desk, AXES[axis] + 0);
                desk.start();
                Due.is("STEPS down to 0", desk.advance(3000), place);
                Due.state("TRIPPED at 0", desk, 4, 0, 0, 0, place, 0);
                desk.stop();
                desk.trip(axis, -1);
                Due.load(desk, AXES[axis] + 1000);
                desk.start();
                Due.is("without a switch", desk.advance(3000), 1000);
                Due.is("it STANDS", desk.state(0), 0);
            }
        }
        Desk first = Due.quick("X1000 Y1000 Z1000 / X0 Y0 Z0");
        Due.is("none at first", first.advance(3000), 2000);
        Due.is("it STANDS", first.state(0), 0);
    }

    // ---- promises 12 to 15 ----

    private static void atEdges() {
        Due.says("at: Where the tool is on an axis; BAD if there is none");
        Desk desk = Due.quick("X7 Y8 Z9");
        desk.advance(100);
        int[][] axes = {{-2, -1}, {-1, -1}, {0, 7}, {1, 8}, {2, 9}, {3, -1}, {4, -1}};
        for (int[] axis : axes) {
            Due.is("at(" + axis[0] + ")", desk.at(axis[0]), axis[1]);
        }
    }

    private static void stateEdges() {
        Due.says("state: BAD for others");
        Desk desk = Due.quick("X9");
        desk.advance(5);
        int[][] whats = {{-2, -1}, {-1, -1}, {0, 1}, {8, 5}, {9, -1}, {10, -1}, {Integer.MIN_VALUE, -1}, {Integer.MAX_VALUE, -1}};
        for (int[] what : whats) {
            Due.is("state(" + what[0] + ")", desk.state(what[0]), what[1]);
        }
    }

    private static void stateWhats() {
        Due.says("state: 3: the LINE .. (-1 if it STANDS); 4, 5: (0 for both without one); 6: ticks of DWELL left");
        Desk desk = Due.quick("F5 / X2 / G4 P3 M0 / M0 / X1 M2 / X9");
        Due.state("a BLOCK", desk, 1, 0, 0, 1, 0, 2, 0, 0, 0);
        desk.advance(4);
        Due.state("1466 gone", desk, 1, 0, 466, 1, 1, 1, 0, 1, 4);
        desk.advance(2);
        Due.state("DWELLS", desk, 2, 0, 0, 2, 0, 0, 3, 2, 6);
        desk.advance(2);
        Due.state("DWELLS", desk, 2, 0, 0, 2, 0, 0, 1, 2, 8);
        desk.advance(1);
        Due.state("WAITS", desk, 3, 0, 0, 2, 0, 0, 0, 2, 9);
        desk.resume();
        Due.state("WAITS with the next", desk, 3, 0, 0, 3, 0, 0, 0, 2, 9);
        desk.resume();
        Due.state("a BLOCK", desk, 1, 0, 0, 4, 0, 1, 0, 2, 9);
        desk.trip(0, 1);
        desk.advance(10);
        Due.state("TRIPPED", desk, 4, 0, 0, 4, 1, 0, 0, 3, 19);
        desk.stop();
        Due.state("STANDS", desk, 0, 0, 0, -1, 0, 0, 0, 3, 19);
        Desk stopped = Due.started("G4 P5");
        stopped.advance(2);
        stopped.stop();
        Due.state("no DWELL is left behind stop", stopped, 0, 0, 0, -1, 0, 0, 0, 0, 2);
    }

    private static void afterEdges() {
        Due.says("after: BAD if there is no such axis or LINE");
        Desk desk = new Desk();
        Due.is("no LINES", desk.after(0, 0), MillDesk.BAD);
        for (int i = 0; i < 30; i++) {
            desk.word(true, 2, i);
            desk.word(false, 4, 2 * i);
            Due.is("the last LINE", desk.after(i, 0), i);
            Due.is("one more", desk.after(i + 1, 0), MillDesk.BAD);
        }
        Due.is("LINE -1", desk.after(-1, 0), MillDesk.BAD);
        Due.is("axis -1", desk.after(29, -1), MillDesk.BAD);
        Due.is("axis 0", desk.after(29, 0), 29);
        Due.is("axis 1", desk.after(29, 1), 0);
        Due.is("axis 2", desk.after(29, 2), 58);
        Due.is("axis 3", desk.after(29, 3), MillDesk.BAD);
        Due.is("neither", desk.after(30, 3), MillDesk.BAD);
    }

    private static void afterWrongOrEnd() {
        Due.says("after: BAD if one up to it is WRONG, or has END before it");
        String[] wrong = {"G5", "X1 X1", "P1", "G1 X1", "G2 F9 X1", "X1001"};
        for (String w : wrong) {
            Desk desk = Due.with("X5 / X6 / " + w + " / X7");
            Due.is("two before " + w, desk.after(0, 0), 5);
            Due.is("one before " + w, desk.after(1, 0), 6);
            Due.is("with " + w, desk.after(2, 0), MillDesk.BAD);
            Due.is("behind " + w, desk.after(3, 0), MillDesk.BAD);
        }
        Desk ends = Due.with("X5 / X6 M2 / X7 / G5");
        Due.is("before END", ends.after(0, 0), 5);
        Due.is("with END", ends.after(1, 0), 6);
        Due.is("behind END", ends.after(2, 0), MillDesk.BAD);
        Due.is("WRONG and behind END", ends.after(3, 0), MillDesk.BAD);
        Due.is("a PAUSE before it", Due.with("X5 M0 / X6").after(1, 0), 6);
        Desk busy = Due.started("X5 / X6 M2 / X7");
        Due.is("with END while it RUNS", busy.after(1, 0), 6);
        Due.is("behind END while it RUNS", busy.after(2, 0), MillDesk.BAD);
    }

    private static void jointEdges() {
        Due.says("joint: The PACE of the JOINT at the k-th end from the BLOCK at hand on (0: its own end); BAD if k is not 0..5");
        Desk desk = Due.started("G1 F700 X10 / F600 X20 / F650 X30 / F500 X40 / F490 X50 / F400 X60 / F300 X70 / F200 X80");
        int[][] ks = {{-2, -1}, {-1, -1}, {0, 600}, {1, 600}, {2, 500}, {3, 490}, {4, 400}, {5, 300}, {6, -1}, {7, -1}};
        for (int[] k : ks) {
            Due.is("joint(" + k[0] + ")", desk.joint(k[0]), k[1]);
        }
        for (int i = 0; i < 3000 && desk.state(3) < 2; i++) {
            desk.advance(1);
        }
        int[] later = {500, 490, 400, 300, 200, 0};
        for (int k = 0; k < 6; k++) {
            Due.is("from the third on: joint(" + k + ")", desk.joint(k), later[k]);
        }
    }

    private static void jointBehindNone() {
        Due.says("joint: 0 if there is no JOINT (then none behind it counts either)");
        String[] programs = {"X10 M0 / X20 / X30 / X40", "X10 / G4 P1 / X20 / X30 / X40", "X10", "X10 M2 / X20 / X30"};
        for (String program : programs) {
            for (int k = 0; k < 6; k++) {
                Due.is("joint(" + k + ") of " + program, Due.started(program).joint(k), 0);
            }
        }
        Desk second = Due.started("X10 / X20 M0 / X30 / X40");
        Due.is("before the PAUSE", second.joint(0), 800);
        Due.is("at the PAUSE", second.joint(1), 0);
        Due.is("behind the PAUSE", second.joint(2), 0);
        // A JOINT of PACE 0 is one: those behind it count.
        Desk corner = Due.started("X10 / Y10 / Y20");
        Due.is("at the corner", corner.joint(0), 0);
        Due.is("behind the corner", corner.joint(1), 800);
        Due.is("at the end", corner.joint(2), 0);
    }

    private static void jointWithoutBlock() {
        Due.says("joint: BAD if there is no BLOCK at hand");
        for (int mode = 0; mode <= TRIPPED; mode++) {
            Desk desk = mode == 0 ? Due.with("X9") : busy(mode);
            for (int k = 0; k < 6; k++) {
                Due.is("joint(" + k + ") while " + mode, desk.joint(k), mode == RUNS || mode == TRIPPED ? 0 : MillDesk.BAD);
            }
        }
    }
}
