/** Promises 1 to 6 and 14: what a program is, when it is WRONG, and where it leads. */
public final class ProgramTest {
    private static final int[][] REFUSED_WORDS = {{-1, 0}, {10, 0}, {0, 3001}, {0, -3001},
        {Integer.MIN_VALUE, 0}, {Integer.MAX_VALUE, 0}, {0, Integer.MIN_VALUE}, {0, Integer.MAX_VALUE}};

    public static void main(String[] args) {
        newObject();
        newSettings();
        clearing();
        words();
        settings();
        wrongByWords();
        wrongByMixture();
        wrongBySpeed();
        wrongByRound();
        wrongByLimit();
        checkingWhileRunning();
        starting();
        inForceAtTheBeginning();
        places();
        behindLines();
        Due.end("ProgramTest");
    }

    // ---- promise 1 ----

    private static void newObject() {
        Desk desk = new Desk();
        Due.state("new", desk, 0, 0, 0, -1, 0, 0, 0, 0, 0);
        Due.at("new", desk, 0, 0, 0);
        Due.is("new: check", desk.check(), 0);
        Due.no("new: start", desk.start());
        Due.no("new: hold", desk.hold());
        Due.no("new: resume", desk.resume());
        Due.no("new: stop", desk.stop());
        Due.is("new: joint", desk.joint(0), MillDesk.BAD);
        Due.is("new: after", desk.after(0, 0), MillDesk.BAD);
        Due.is("new: word of no LINE", desk.word(false, 2, 1), MillDesk.BAD);
        Due.check("X1000 Y1000 Z1000", 0);
        Due.check("X1001", 6);
        Due.check("Y1001", 6);
        Due.check("Z1001", 6);
    }

    private static void newSettings() {
        Desk desk = Due.started("X1000");
        Due.paces("GAIN 20", desk, 20, 40, 60);
        desk.advance(36);
        Due.paces("FASTEST 800", desk, 800, 800);
        // c 100, m 223: 400 * 100 / 123
        Due.is("BEND 400", Due.started("X10 / X20 Y20").joint(0), 325);
        Desk ahead = Due.with("X1 / X2 / X3 / X4 / X5");
        ahead.set(3, 2000);
        ahead.set(4, 200);
        ahead.start();
        Due.paces("AHEAD 3", ahead, 200, 400, 600, 800, 1000, 800, 600, 400, 0);
        Due.state("AHEAD 3", ahead, 0, 0, 0, -1, 0, 0, 0, 5, 9);
    }

    // ---- promise 2 ----

    private static void clearing() {
        Desk desk = new Desk();
        Due.yes("clear of nothing", desk.clear());
        Due.load(desk, "X5 / X6");
        Due.yes("clear", desk.clear());
        Due.is("cleared: check", desk.check(), 0);
        Due.is("cleared: after", desk.after(0, 0), MillDesk.BAD);
        Due.is("cleared: word of no LINE", desk.word(false, 2, 1), MillDesk.BAD);
        Due.no("cleared: start", desk.start());
        Due.is("cleared: a new LINE is empty", desk.word(true, 2, 7), 1);
        Due.load(desk, "X5 Y6 / Z7");
        Due.load(desk, "X4");
        Due.is("no word of a cleared LINE counts", desk.after(0, 1), 0);
        Due.is("no cleared LINE counts", desk.after(1, 2), MillDesk.BAD);
        for (int i = 0; i < 30; i++) {
            desk.word(true, 8, 1);
        }
        Due.yes("clear of a full program", desk.clear());
        Due.is("room again", desk.word(true, 2, 7), 1);

        String[] programs = {"X9", "G4 P9 / X9", "M0 / X9", "X9 / X10"};
        for (int i = 0; i < programs.length; i++) {
            Desk busy = busy(programs[i], i + 1);
            Due.no("clear while " + (i + 1), busy.clear());
            busy.stop();
            Due.yes("the program of " + (i + 1) + " is still there", busy.start());
        }
    }

    /** A machine that is as state(0) tells: 1 RUNS, 2 DWELLS, 3 WAITS, 4 TRIPPED at X 1. */
    private static Desk busy(String program, int mode) {
        Desk desk = Due.with(program);
        if (mode == 4) desk.trip(0, 1);
        desk.start();
        if (mode == 4) desk.advance(100);
        Due.is("state of " + program, desk.state(0), mode);
        return desk;
    }

    // ---- promise 3 ----

    private static void words() {
        Desk desk = new Desk();
        for (int[] w : REFUSED_WORDS) {
            Due.is("fresh word " + w[0] + " " + w[1], desk.word(true, w[0], w[1]), MillDesk.BAD);
        }
        Due.is("no LINE came of them", desk.word(false, 0, 0), MillDesk.BAD);
        Due.is("letter 0, value 3000", desk.word(true, 0, 3000), 1);
        Due.is("letter 9, value -3000", desk.word(false, 9, -3000), 2);
        for (int i = 3; i <= 8; i++) {
            Due.is("word " + i, desk.word(false, i, 1), i);
        }
        Due.is("ninth word", desk.word(false, 2, 1), MillDesk.FULL);
        for (int[] w : REFUSED_WORDS) {
            Due.is("BAD before FULL in a LINE", desk.word(false, w[0], w[1]), MillDesk.BAD);
        }
        for (int i = 1; i < 30; i++) {
            Due.is("LINE " + i, desk.word(true, 2, 1), 1);
        }
        Due.is("LINE 30", desk.word(true, 2, 1), MillDesk.FULL);
        for (int[] w : REFUSED_WORDS) {
            Due.is("BAD before FULL in the program", desk.word(true, w[0], w[1]), MillDesk.BAD);
        }
        Due.is("the last LINE is LINE 29", desk.word(false, 3, 1), 2);
        for (int mode = 1; mode <= 4; mode++) {
            Desk busy = busy(mode == 2 ? "G4 P9" : mode == 3 ? "M0" : "X9", mode);
            Due.is("fresh word while " + mode, busy.word(true, 2, 1), MillDesk.BAD);
            Due.is("word while " + mode, busy.word(false, 3, 1), MillDesk.BAD);
        }
        Desk all = new Desk();
        for (int i = 0; i < 30; i++) {
            for (int k = 0; k < 8; k++) {
                Due.is("word " + k + " of LINE " + i, all.word(k == 0, 2 + k % 3, i), k + 1);
            }
        }
        Due.is("240 words, LINE 0 WRONG", all.check(), 2);
    }

    // ---- promise 4 ----

    private static void settings() {
        int[][] edges = {{1, 1000}, {1, 1000}, {1, 1000}, {1, 2000}, {1, 200}, {0, 2000}, {1, 6}};
        Desk desk = new Desk();
        for (int what = 0; what < 7; what++) {
            Due.no("set " + what + " below", desk.set(what, edges[what][0] - 1));
            Due.no("set " + what + " above", desk.set(what, edges[what][1] + 1));
            Due.no("set " + what + " far below", desk.set(what, Integer.MIN_VALUE));
            Due.no("set " + what + " far above", desk.set(what, Integer.MAX_VALUE));
            Due.yes("set " + what + " least", desk.set(what, edges[what][0]));
            Due.yes("set " + what + " most", desk.set(what, edges[what][1]));
        }
        for (int v = -1; v <= 7; v++) {
            Due.no("set -1", desk.set(-1, v));
            Due.no("set 7", desk.set(7, v));
        }
        Due.no("set -1", desk.set(-1, 1000));
        Due.no("set 7", desk.set(7, 1000));
        Due.no("set the least int", desk.set(Integer.MIN_VALUE, 1));
        Due.no("set the greatest int", desk.set(Integer.MAX_VALUE, 1));
        limitsFromTheTool();
        settingsCount();
        for (int mode = 1; mode <= 4; mode++) {
            Desk busy = busy(mode == 2 ? "G4 P9" : mode == 3 ? "M0" : "X9", mode);
            for (int what = 0; what < 7; what++) {
                Due.no("set " + what + " while " + mode, busy.set(what, edges[what][1]));
            }
        }
    }

    private static void limitsFromTheTool() {
        Desk desk = Due.started("X7 Y1 Z2");
        desk.advance(1000);
        Due.no("LIMIT below the tool", desk.set(0, 6));
        Due.yes("LIMIT at the tool", desk.set(0, 7));
        Due.no("LIMIT 0", desk.set(1, 0));
        Due.yes("LIMIT 1", desk.set(1, 1));
        Due.yes("LIMIT of Z", desk.set(2, 3));
        Due.load(desk, "X8");
        Due.is("over the LIMIT of X", desk.check(), 6);
        Due.load(desk, "Y2");
        Due.is("over the LIMIT of Y", desk.check(), 6);
        Due.load(desk, "Z4");
        Due.is("over the LIMIT of Z", desk.check(), 6);
        Due.load(desk, "X7 Y1 Z3");
        Due.is("at the LIMITS", desk.check(), 0);
        Due.no("a refused LIMIT", desk.set(0, 1001));
        Due.load(desk, "X8");
        Due.is("a refused LIMIT changes nothing", desk.check(), 6);
    }

    private static void settingsCount() {
        Desk desk = Due.with("X50 / X60 Y20");
        desk.set(3, 70);
        desk.set(4, 30);
        desk.start();
        Due.paces("GAIN 30, FASTEST 70", desk, 30, 60, 70, 70);
        Desk bent = Due.with("X10 / X20 Y20");
        bent.set(5, 100);
        bent.start();
        Due.is("BEND 100", bent.joint(0), 81);
        int[][] wants = {{200, 400, 300, 100, 300, 433, 233, 34}, {200, 400, 600, 750, 550, 675, 756}};
        for (int ahead = 1; ahead <= 2; ahead++) {
            Desk far = Due.with("X1 / X2 / X3 / X4 / X5 / X6 / X7 / X8");
            far.set(3, 2000);
            far.set(4, 200);
            far.set(6, ahead);
            far.start();
            Due.paces("AHEAD " + ahead, far, wants[ahead - 1]);
        }
    }

    // ---- promise 5 ----

    private static void wrongByWords() {
        int[] known = {0, 1, 2, 3, 4, 17, 18, 19, 20, 21, 28, 53, 54, 55, 90, 91, 92};
        for (int g = -3000; g <= 3000; g++) {
            boolean there = false;
            for (int k : known) {
                there |= k == g;
            }
            Desk desk = new Desk();
            desk.word(true, 0, g);
            Due.is("G" + g + " alone is none", desk.check() == 1 ? 1 : 0, there ? 0 : 1);
        }
        for (int m = -3; m <= 5; m++) {
            Due.check("M" + m, m == 0 || m == 2 ? 0 : 1);
        }
        Due.check("F0", 1);
        Due.check("F-5", 1);
        Due.check("F1", 0);
        Due.check("F1000", 0);
        Due.check("F1001", 1);
        Due.check("G4 P-1", 1);
        Due.check("G4 P0", 0);
        Due.check("G4 P1000", 0);
        Due.check("G4 P1001", 1);
        Due.check("P-1", 1);
        Due.check("X1 X2 G5", 1);
        Due.check("X2000 F1001", 1);
        for (String twice : new String[] {"M0 M2", "M2 M2", "X1 X1", "Y1 Y2", "Z1 Z1", "G2 F9 I5 I5",
            "G2 F9 J5 J5", "G2 F9 K5 K5", "F5 F5", "G4 P1 P1", "P1 P1", "I1 I1"}) {
            Due.check(twice, 2);
        }
        for (String group : new String[] {"G0 G0", "G0 G1", "G2 G3", "G17 G18", "G19 G19", "G20 G21",
            "G90 G91", "G54 G55", "G4 G28 P1", "G53 G92 X1", "G28 G53 X1", "G4 G4 P1"}) {
            Due.check(group, 2);
        }
        Due.check("G1 G17 G20 G90 G54 F10 X4 Y4", 0);
        Due.check("G0 G17 G21 G90 G54 G53 X4 M0", 0);
    }

    private static void wrongByMixture() {
        Due.check("G4", 3);
        Due.check("P3", 3);
        Due.check("P0", 3);
        Due.check("X3 P0", 3);
        Due.check("I3", 3);
        Due.check("J0", 3);
        Due.check("G1 F9 K3", 3);
        Due.check("G2 F9 G28 X0 I3", 3);
        Due.check("G2 F9 G92 X0 J3", 3);
        Due.check("G2 F9 G4 P2 K3", 3);
        Due.check("G0 G53 X0 I3", 3);
        Due.check("G4 P2 X3", 3);
        Due.check("G4 P2 Y3", 3);
        Due.check("G4 P2 Z0", 3);
        Due.check("G28", 3);
        Due.check("G53", 3);
        Due.check("G92", 3);
        Due.check("G28 F100", 3);
        Due.check("G28 X0 G91", 3);
        Due.check("G91 / G28 Y0", 13);
        Due.check("G53 X0 G91", 3);
        Due.check("G91 / G53 Z0", 13);
        Due.check("G92 X0 G91", 0);
        Due.check("G91 / G90 G28 X0", 0);
        Due.check("G53 X0 G2 F9", 3);
        Due.check("G3 F9 / G53 Y0", 13);
        Due.check("G3 F9 / G1 G53 Y0", 0);
        Due.check("G3 / G28 X0 / G92 X0 / G4 P1 / G20 / M0", 0);
        Due.check("G1 X5 P3", 3);
        Due.check("G4 P2 F5 G1 G18 G91 G55 M0", 0);
    }

    private static void wrongBySpeed() {
        Due.check("G1 X4", 4);
        Due.check("G1 Z0", 4);
        Due.check("G1 G53 X4", 4);
        Due.check("G1 / X4", 14);
        Due.check("G2 I5", 4);
        Due.check("G2 X5", 4);
        Due.check("G1 X2000", 4);
        Due.check("G1 X4 F1", 0);
        Due.check("F1 / G1 X4", 0);
        Due.check("G1 / G28 X0", 0);
        Due.check("G1 / G92 X4", 0);
        Due.check("G1 / G4 P3", 0);
        Due.check("G1 / G0 X4", 0);
        Due.check("G1", 0);
    }

    private static void wrongByRound() {
        String at = "X400 Y400 Z400 / F9 ";
        Due.check(at + "G2 X405", 15);
        Due.check(at + "G2 X400", 15);
        Due.check(at + "G2 K5", 15);
        Due.check(at + "G2 I5 K0", 15);
        Due.check(at + "G2 I5 Z400", 15);
        Due.check(at + "G18 G2 J5", 15);
        Due.check(at + "G18 G2 K5 J0", 15);
        Due.check(at + "G18 G2 K5 Y400", 15);
        Due.check(at + "G19 G2 I5", 15);
        Due.check(at + "G19 G2 J5 I0", 15);
        Due.check(at + "G19 G2 J5 X400", 15);
        Due.check(at + "G2 I0 J0", 15);
        Due.check(at + "G2 J0", 15);
        Due.check(at + "G2 I301", 15);
        Due.check(at + "G3 J-301", 15);
        Due.check(at + "G2 I181 J240", 15);
        Due.check(at + "G2 I3000", 15);
        Due.check(at + "G20 G2 I61", 15);
        Due.check(at + "G20 G2 I-3000 J-3000 X3000 Y-3000", 15);
        Due.check(at + "G2 I5 X411", 15);
        Due.check(at + "G2 I5 X409", 15);
        Due.check(at + "G2 I5 X410 Y401", 15);
        Due.check(at + "G2 I5 X3000", 15);
        Due.check(at + "G2 I5", 0);
        Due.check(at + "G3 J-5 X405 Y395", 0);
        Due.check(at + "G2 I5 X410 Y400", 0);
        Due.check(at + "G2 I300", 0);
        Due.check(at + "G2 I180 J240", 0);
        Due.check(at + "G20 G2 I60", 0);
        Due.check(at + "G91 G3 I-3 J-4 X2 Y-8", 15);
        Due.check(at + "G91 G3 I-3 J-4 X-6 Y-8", 0);
        Due.check(at + "G91 G3 I-3 J-4 X1 Y-1", 0);
        Due.check(at + "G18 G2 K5 I-12 Z417 X393", 0);
        Due.check(at + "G18 G2 I300", 0);
        Due.check(at + "G19 G2 J5 Y410", 0);
        Due.check(at + "G19 G2 K-5 Z390", 0);
    }

    private static void wrongByLimit() {
        Due.check("X1001", 6);
        Due.check("X-1", 6);
        Due.check("Y-1", 6);
        Due.check("Z-1", 6);
        Due.check("X1000 / G91 X1", 16);
        Due.check("G53 X1001", 6);
        Due.check("G20 X200", 0);
        Due.check("G20 X201", 6);
        Due.check("X5 / G92 X6 / X0", 26);
        Due.check("X5 / G92 X5 / X0", 0);
        // The circle of radius 5 reaches from 0 to 10 across.
        Due.check("X5 Y5 / G2 F9 I5", 0);
        Due.check("X5 Y4 / G2 F9 I5", 16);
        Due.check("X5 Y4 / G2 F9 I5 X15", 0);
        Due.check("X5 Y4 / G3 F9 I5 X15", 16);
        Due.check("X990 Y500 / G2 F9 I5", 0);
        Due.check("X991 Y500 / G2 F9 I5", 16);
        Due.check("Y5 Z995 / G19 G2 F9 J5", 0);
        Due.check("Y5 Z996 / G19 G2 F9 J5", 16);
        Due.check("X995 Z5 / G18 G2 F9 K5", 0);
        Due.check("X996 Z5 / G18 G2 F9 K5", 16);
        // The first of several WRONG LINES, and LINES behind END.
        Due.check("X5 / G5 / X2000", 11);
        Due.check("X5 / X6 M2 / G5 / X2000", 0);
        Due.check("M2 / G5", 0);
        Due.check("M0 / G5", 11);
        StringBuilder long29 = new StringBuilder("X1");
        for (int i = 1; i < 29; i++) {
            long29.append(" / X").append(i);
        }
        Due.check(long29 + " / X1001", 296);
    }

    private static void checkingWhileRunning() {
        Desk desk = Due.with("G91 X600 / G4 P5 / M0");
        Due.is("before: after", desk.after(0, 0), 600);
        desk.start();
        desk.advance(100);
        Due.yes("on its way", desk.at(0) > 0 && desk.at(0) < 600);
        Due.is("running: check", desk.check(), 0);
        Due.is("running: after", desk.after(0, 0), 600);
        desk.advance(3000);
        Due.is("waits", desk.state(0), 3);
        Due.is("waiting: check", desk.check(), 0);
        Due.is("waiting: after", desk.after(2, 0), 600);
        desk.stop();
        Due.is("stopped: check is from where the tool is", desk.check(), 6);
        Due.is("stopped: after", desk.after(0, 0), MillDesk.BAD);
        Due.no("stopped: start", desk.start());
        Due.at("stopped", desk, 600, 0, 0);
        Desk tripped = Due.with("G91 X600");
        tripped.trip(0, 450);
        tripped.start();
        tripped.advance(3000);
        Due.is("tripped: check", tripped.check(), 0);
        Due.is("tripped: after", tripped.after(0, 0), 600);
        tripped.stop();
        Due.is("tripped and stopped: check", tripped.check(), 6);
    }

    // ---- promise 6 ----

    private static void starting() {
        Desk desk = Due.with("X5");
        Due.yes("start", desk.start());
        Due.state("started", desk, 1, 0, 0, 0, 0, 5, 0, 0, 0);
        Due.no("start while it RUNS", desk.start());
        desk.advance(1000);
        Due.yes("start at the end of the way", desk.start());
        Due.is("nothing to go: it STANDS", desk.state(0), 0);
        Due.no("start while it DWELLS", Due.started("G4 P5").start());
        Due.no("start while it WAITS", Due.started("M0").start());
        Due.no("start while TRIPPED", busy("X5", 4).start());
        Desk wrong = Due.with("X5 / X1001");
        Due.no("start of a WRONG program", wrong.start());
        wrong.advance(100);
        Due.at("a WRONG program does nothing", wrong, 0, 0, 0);
    }

    /** What a program has put in force does not last into the next run. */
    private static void inForceAtTheBeginning() {
        Desk desk = Due.with("X5 / G91 G20 G55 G18 G1 F500 / G92 X3 / G54 G92 X1");
        desk.start();
        desk.advance(1000);
        Due.is("at its end", desk.state(0), 0);
        Due.at("at its end", desk, 5, 0, 0);
        Due.is("90, 21 and an ORIGIN of 0 again", desk.after(0, 0), 5);
        Due.load(desk, "G1 X6");
        Due.is("SPEED 0 again", desk.check(), 4);
        Due.load(desk, "X6");
        Due.is("FAST again", desk.check(), 0);
        Due.load(desk, "G55 X6 / G91 X1");
        Due.is("ORIGIN 55 is 0 again", desk.after(0, 0), 6);
        Due.is("SCALE 21 again", desk.after(1, 0), 7);
        Due.load(desk, "X9 Y9 / G2 F5 J4");
        Due.is("PLANE 17 again", desk.check(), 0);
    }

    // ---- promise 14, and what LINES do ----

    private static void places() {
        Due.leads("X10 / Y20 / Z30 X1", 10, 0, 0, 10, 20, 0, 1, 20, 30);
        Due.leads("X10 / G91 X5 Y2 / X-3 / G90 X1", 10, 0, 0, 15, 2, 0, 12, 2, 0, 1, 2, 0);
        Due.leads("G20 X3 / G21 X4 / G91 G20 X2", 15, 0, 0, 4, 0, 0, 14, 0, 0);
        Due.leads("X10 Y10 Z10 / G28 Y500 / G28 X-3 Z7", 10, 10, 10, 10, 0, 10, 0, 0, 0);
        Due.leads("X10 / G92 X0 / X5 / Y5", 10, 0, 0, 10, 0, 0, 15, 0, 0, 15, 5, 0);
        Due.leads("X10 / G92 X2 Y-3 / X5 Y1 / G53 X5 Y1 / X5", 10, 0, 0, 10, 0, 0, 13, 4, 0, 5, 1, 0, 13, 1, 0);
        Due.leads("X10 / G55 G92 X0 / X5 / G54 X5 / G55 X1", 10, 0, 0, 10, 0, 0, 15, 0, 0, 5, 0, 0, 11, 0, 0);
        Due.leads("G20 X4 / G92 X1 / G21 X0 / G91 X1", 20, 0, 0, 20, 0, 0, 15, 0, 0, 16, 0, 0);
        Due.leads("X10 / G91 G92 X4 / X3 / G90 X3", 10, 0, 0, 10, 0, 0, 13, 0, 0, 9, 0, 0);
        Due.leads("X10 / G92 X0 / X5 / G92 X1 / X0", 10, 0, 0, 10, 0, 0, 15, 0, 0, 15, 0, 0, 14, 0, 0);
        Due.leads("X10 / G92 X0 / G28 X0 / X0", 10, 0, 0, 10, 0, 0, 0, 0, 0, 10, 0, 0);
        Due.leads("X10 Y7 Z6 / G92 Y2 Z5 / Y0 Z2", 10, 7, 6, 10, 7, 6, 10, 5, 3);
        Due.leads("G20 G53 X4 / G92 X0 / G53 X5", 20, 0, 0, 20, 0, 0, 25, 0, 0);
        Due.leads("X20 Y20 / G2 F500 I5 / G3 I3 J4 X28 Y24 / I0 J5", 20, 20, 0, 20, 20, 0, 28, 24, 0, 28, 24, 0);
        Due.leads("X20 Y20 Z20 / G18 G3 F500 G91 Z6 K3 / G19 G2 Y8 J4", 20, 20, 20, 20, 20, 26, 20, 28, 26);
        Due.leads("X20 Y20 / G92 X0 Y0 / G2 F500 I5 X10 / G20 G91 G3 J2 Y4",
            20, 20, 0, 20, 20, 0, 30, 20, 0, 30, 40, 0);
        Due.leads("X5 / G4 P3 / M0 / X6 M0 / X7 M2", 5, 0, 0, 5, 0, 0, 5, 0, 0, 6, 0, 0, 7, 0, 0);
    }

    private static void behindLines() {
        Desk desk = Due.with("X5 / X6 / X7 M2 / X8");
        Due.is("behind END'S LINE", desk.after(2, 0), 7);
        Due.is("END before it", desk.after(3, 0), MillDesk.BAD);
        Due.is("no such LINE", desk.after(4, 0), MillDesk.BAD);
        Due.is("LINE -1", desk.after(-1, 0), MillDesk.BAD);
        Due.is("LINE 30", desk.after(30, 0), MillDesk.BAD);
        Due.is("the least int", desk.after(Integer.MIN_VALUE, 0), MillDesk.BAD);
        Due.is("the greatest int", desk.after(Integer.MAX_VALUE, 0), MillDesk.BAD);
        Due.is("axis -1", desk.after(0, -1), MillDesk.BAD);
        Due.is("axis 3", desk.after(0, 3), MillDesk.BAD);
        Due.is("the least axis", desk.after(0, Integer.MIN_VALUE), MillDesk.BAD);
        Due.is("the greatest axis", desk.after(0, Integer.MAX_VALUE), MillDesk.BAD);
        Desk wrong = Due.with("X5 / X6 / X1001 / X7");
        Due.is("before the WRONG LINE", wrong.after(1, 0), 6);
        Due.is("the WRONG LINE", wrong.after(2, 0), MillDesk.BAD);
        Due.is("behind the WRONG LINE", wrong.after(3, 0), MillDesk.BAD);
    }
}
