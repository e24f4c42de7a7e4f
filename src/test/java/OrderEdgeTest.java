/** Promise 16, Order and limits, sentence by sentence. */
public final class OrderEdgeTest {
    private static final int MIN = Integer.MIN_VALUE, MAX = Integer.MAX_VALUE;

    public static void main(String[] args) {
        badBeforeFull();
        dwellFirst();
        pauseFirst();
        nothingAtAll();
        resumeBegins();
        fromAnotherPlace();
        otherAxesAlone();
        atAnyTime();
        stepsToCome();
        theSwitchStays();
        tripInTheMidst();
        whileTripped();
        countsSinceMade();
        allTicks();
        badAdvance();
        checkWithoutLines();
        lastTickOfADwell();
        nextTickOfAWay();
        Due.end("OrderEdgeTest");
    }

    // ---- word ----

    private static void badBeforeFull() {
        Due.says("word: BAD is tested before FULL");
        Desk line = Due.with("G0 G17 G20 G90 G54 F5 X1 Y1");
        Desk program = new Desk();
        for (int i = 0; i < 30; i++) {
            program.word(true, 2, i);
        }
        int[][] wrong = {{-1, 0}, {10, 0}, {0, 3001}, {0, -3001}, {MIN, MIN}, {MAX, MAX}, {0, MIN}, {0, MAX}};
        for (int[] w : wrong) {
            Due.is("a ninth word " + w[0] + ", " + w[1], line.word(false, w[0], w[1]), MillDesk.BAD);
            Due.is("LINE 30 with " + w[0] + ", " + w[1], program.word(true, w[0], w[1]), MillDesk.BAD);
        }
        Due.is("a ninth word", line.word(false, 0, 3000), MillDesk.FULL);
        Due.is("a ninth word", line.word(false, 9, -3000), MillDesk.FULL);
        Due.is("LINE 30", program.word(true, 0, 3000), MillDesk.FULL);
        Due.is("LINE 30", program.word(true, 9, -3000), MillDesk.FULL);
        line.start();
        Due.is("it RUNS", line.state(0), 1);
        Due.is("a ninth word while it RUNS", line.word(false, 2, 1), MillDesk.BAD);
        program.start();
        Due.is("it RUNS", program.state(0), 1);
        Due.is("LINE 30 while it RUNS", program.word(true, 2, 1), MillDesk.BAD);
        line.stop();
        program.stop();
        Due.is("a ninth word again", line.word(false, 2, 1), MillDesk.FULL);
        Due.is("LINE 30 again", program.word(true, 2, 1), MillDesk.FULL);
    }

    // ---- start and resume ----

    private static void dwellFirst() {
        Due.says("start: with a DWELL first the machine DWELLS right behind start");
        Due.state("P1", Due.started("G4 P1 / X5"), 2, 0, 0, 0, 0, 0, 1, 0, 0);
        Due.state("P1000", Due.started("G4 P1000"), 2, 0, 0, 0, 0, 0, 1000, 0, 0);
        Due.state("behind LINES that do nothing", Due.started("F5 / G92 X3 / X3 / G4 P0 / G4 P7 M0"), 2, 0, 0, 4, 0, 0, 7, 0, 0);
        Due.state("P0 is none", Due.started("G4 P0 / X5"), 1, 0, 0, 1, 0, 5, 0, 0, 0);
    }

    private static void pauseFirst() {
        Due.says("start: with a PAUSE first the machine WAITS right behind start");
        Due.state("M0", Due.started("M0 / X5"), 3, 0, 0, 0, 0, 0, 0, 0, 0);
        Due.state("M0 of a DWELL of 0", Due.started("G4 P0 M0 / X5"), 3, 0, 0, 0, 0, 0, 0, 0, 0);
        Due.state("M0 of a way to where it is", Due.started("F5 / X0 M0 / X5"), 3, 0, 0, 1, 0, 0, 0, 0, 0);
        Due.state("M0 of a way", Due.started("X5 M0"), 1, 0, 0, 0, 0, 5, 0, 0, 0);
        Due.state("M0 of a DWELL", Due.started("G4 P1 M0"), 2, 0, 0, 0, 0, 0, 1, 0, 0);
    }

    private static void nothingAtAll() {
        Due.says("start: a PROGRAM without any way, DWELL of 1 or more, or PAUSE STANDS at once (start is true)");
        String[] programs = {"M2", "F5", "X0", "G4 P0", "G28 X7", "G92 X7", "G53 X0 Y0 Z0", "G91 X0", "G20 G18 G3 G55 / G4 P0 M2",
            "M2 / X5", "G4 P0 M2 / M0", "X0 M2 / G4 P5"};
        for (String program : programs) {
            Desk desk = Due.with(program);
            Due.yes("start of " + program, desk.start());
            Due.state("STANDS: " + program, desk, 0, 0, 0, -1, 0, 0, 0, 0, 0);
            Due.is("no BLOCK: " + program, desk.joint(0), MillDesk.BAD);
            Due.is("nothing is done: " + program, desk.advance(100), 0);
            Due.yes("it may start again: " + program, desk.start());
        }
        Due.is("a way of one STEP", Due.started("F5 / X1").state(0), 1);
        Due.is("a DWELL of 1", Due.started("F5 / G4 P1").state(0), 2);
        Due.is("a PAUSE", Due.started("F5 / M0").state(0), 3);
    }

    private static void resumeBegins() {
        Due.says("resume of a machine that WAITS likewise begins what comes next at once");
        String[] programs = {"M0 / X5", "M0 / G4 P3", "M0 / M0", "M0", "M0 / M2 / X5", "M0 / G4 P0 / F5 / X0 / G4 P1", "M0 / G4 P0 M0"};
        int[][] wants = {{1, 0, 0, 1, 0, 5, 0, 0, 0}, {2, 0, 0, 1, 0, 0, 3, 0, 0}, {3, 0, 0, 1, 0, 0, 0, 0, 0},
            {0, 0, 0, -1, 0, 0, 0, 0, 0}, {0, 0, 0, -1, 0, 0, 0, 0, 0}, {2, 0, 0, 4, 0, 0, 1, 0, 0}, {3, 0, 0, 1, 0, 0, 0, 0, 0}};
        for (int i = 0; i < programs.length; i++) {
            Desk desk = Due.started(programs[i]);
            Due.is("WAITS: " + programs[i], desk.state(0), 3);
            Due.yes("resume of " + programs[i], desk.resume());
            Due.state("behind resume of " + programs[i], desk, wants[i]);
        }
        Desk way = Due.started("M0 / X5");
        way.resume();
        Due.paces("its way is gone from the first tick on", way, 20, 40);
    }

    // ---- trip ----

    private static Desk tripped(String program, int axis, int at) {
        Desk desk = Due.with(program);
        desk.trip(axis, at);
        Due.yes("start of " + program, desk.start());
        desk.advance(3000);
        return desk;
    }

    private static void fromAnotherPlace() {
        Due.says("trip: a STEP counts if by it that axis comes from another place to at; who is there already is not TRIPPED");
        Due.is("from 0 with a switch at 0", tripped("X5", 0, 0).state(0), 0);
        Due.is("back to 0", tripped("X5 / X0", 0, 0).state(0), 4);
        Due.at("back to 0", tripped("X5 / X0", 0, 0), 0, 0, 0);
        Due.at("from below", tripped("X5", 0, 3), 3, 0, 0);
        Desk above = tripped("X5 / X1", 0, -1);
        above.trip(0, 1);
        Due.load(above, "X5 / X0");
        above.start();
        above.advance(3000);
        Due.at("away from the switch, then from above", above, 1, 0, 0);
        Due.is("TRIPPED", above.state(0), 4);
        Due.is("9 STEPS of two ways", above.state(3), 1);
        above.stop();
        above.start();
        above.advance(3000);
        Due.is("who is there already goes away, and comes back", above.state(0), 4);
        // Y goes 0, 1, 1, 2, 2 .. with X: a STEP in which Y stays does not count.
        Desk slow = Due.with("X10 Y5");
        slow.start();
        for (int i = 0; i < 400 && slow.at(1) < 2; i++) {
            slow.advance(1);
        }
        Due.yes("a switch where Y is", slow.trip(1, 2));
        slow.advance(3000);
        Due.at("a STEP in which Y stays", slow, 10, 5, 0);
    }

    private static void otherAxesAlone() {
        Due.says("trip: who .. moves along other axes alone, is not TRIPPED");
        for (int axis = 0; axis < 3; axis++) {
            String[] names = {"X", "Y", "Z"};
            Desk desk = tripped(names[axis] + "5", axis, -1);
            Due.yes("a switch where it is", desk.trip(axis, 5));
            Due.load(desk, names[(axis + 1) % 3] + "9 " + names[(axis + 2) % 3] + "7");
            desk.start();
            Due.is("along the others", desk.advance(3000), 9);
            Due.is("it STANDS", desk.state(0), 0);
            Due.load(desk, names[axis] + "6 / " + names[axis] + "4");
            desk.start();
            Due.is("away from it and back", desk.advance(3000), 2);
            Due.is("TRIPPED", desk.state(0), 4);
        }
        // A way round in X and Y does not come to a switch of Z.
        Due.is("a way round", tripped("X9 Y9 / G2 F500 I5", 2, 0).state(0), 0);
    }

    private static void atAnyTime() {
        Due.says("trip: It may be set at any time");
        String[] programs = {"X9", "X9", "G4 P9 / X9", "M0 / X9", "X9"};
        for (int mode = 0; mode < 5; mode++) {
            Desk desk = Due.with(programs[mode]);
            if (mode == 4) desk.trip(0, 2);
            if (mode > 0) desk.start();
            desk.advance(mode == 4 ? 100 : mode == 1 ? 5 : 0);
            Due.is("the machine", desk.state(0), mode);
            Due.yes("trip while " + mode, desk.trip(0, 4));
            Due.is("it goes on as it was", desk.state(0), mode);
            if (mode == 3) desk.resume();
            if (mode == 4) desk.stop();
            if (mode == 0 || mode == 4) desk.start();
            desk.advance(3000);
            Due.is("TRIPPED", desk.state(0), 4);
            Due.at("TRIPPED", desk, 4, 0, 0);
        }
        Desk held = Due.started("X9");
        held.advance(5);
        held.hold();
        Due.yes("while it HOLDS", held.trip(0, 1));
        held.resume();
        held.advance(3000);
        Due.at("TRIPPED", held, 1, 0, 0);
        Desk off = Due.with("X9");
        off.trip(0, 4);
        off.start();
        off.advance(5);
        Due.yes("taken off while it RUNS", off.trip(0, -1));
        off.advance(3000);
        Due.at("not TRIPPED", off, 9, 0, 0);
    }

    private static void stepsToCome() {
        Due.says("trip: and counts for STEPS to come");
        Desk desk = Due.quick("X9");
        desk.advance(5);
        Due.is("3000 gone", desk.at(0), 3);
        desk.trip(0, 3);
        Due.is("not for the last one", desk.state(0), 1);
        desk.advance(3000);
        Due.at("not for one that was", desk, 9, 0, 0);
        Desk next = Due.quick("X9");
        next.advance(5);
        next.trip(0, 4);
        next.advance(3000);
        Due.at("for the next one", next, 4, 0, 0);
        Desk ahead = Due.quick("X9");
        ahead.advance(5);
        ahead.trip(0, 2);
        ahead.advance(3000);
        Due.at("not for one before", ahead, 9, 0, 0);
    }

    private static void theSwitchStays() {
        Due.says("trip: the switch stays behind a trip");
        Desk desk = tripped("X9 / X0", 0, 4);
        for (int i = 0; i < 3; i++) {
            Due.is("TRIPPED", desk.state(0), 4);
            Due.at("TRIPPED", desk, 4, 0, 0);
            desk.stop();
            desk.start();
            desk.advance(3000);
        }
        desk.stop();
        desk.clear();
        Due.load(desk, "X0 / X9");
        desk.start();
        desk.advance(3000);
        Due.is("behind clear as well", desk.state(3), 1);
        Due.at("TRIPPED", desk, 4, 0, 0);
    }

    private static void tripInTheMidst() {
        Due.says("TRIPPED: pace 0, nothing more is done until stop");
        // Two STEPS would be done in the tick.
        Desk two = Due.with("X100");
        two.set(3, 2000);
        two.set(4, 200);
        two.trip(0, 12);
        two.start();
        Due.is("11 STEPS in ten ticks", two.advance(10), 11);
        Due.is("the pace", two.state(2), 2000);
        Due.is("the first of two STEPS", two.advance(1), 1);
        Due.state("TRIPPED", two, 4, 0, 0, 0, 12, 88, 0, 12, 11);
        Desk second = Due.with("X100");
        second.set(3, 2000);
        second.set(4, 200);
        second.trip(0, 13);
        second.start();
        second.advance(10);
        Due.is("the second of two STEPS", second.advance(1), 2);
        Due.state("TRIPPED", second, 4, 0, 0, 0, 13, 87, 0, 13, 11);
        Due.no("start", second.start());
        Due.no("resume", second.resume());
        Due.no("hold", second.hold());
        Due.is("advance", second.advance(3000), 0);
        Due.yes("stop", second.stop());
        Due.yes("start", second.start());
        Due.paces("from 0", second, 200, 400);
        // All three axes at once.
        Desk all = Due.with("X5 Y5 Z5");
        for (int axis = 0; axis < 3; axis++) {
            all.trip(axis, 2);
        }
        all.start();
        Due.is("three switches at one STEP", all.advance(3000), 2);
        all.stop();
        all.start();
        Due.is("from them", all.advance(3000), 3);
        Due.is("it STANDS", all.state(0), 0);
        Desk each = Due.with("X5 Y5 Z5");
        each.trip(1, 4);
        each.trip(2, 3);
        each.start();
        Due.is("the first of two switches", each.advance(3000), 3);
    }

    // ---- state ----

    private static void whileTripped() {
        Due.says("state: while the machine is TRIPPED 3, 4, 5 (and joint) are those of the BLOCK that it was on");
        Desk midst = tripped("X5 / X9 / X12", 0, 7);
        Due.state("in the midst", midst, 4, 0, 0, 1, 2, 2, 0, 7, 3000);
        Due.is("joint(0)", midst.joint(0), 800);
        Due.is("joint(1)", midst.joint(1), 0);
        Due.is("joint(6)", midst.joint(6), MillDesk.BAD);
        Desk first = tripped("X5 / X9 / X12", 0, 6);
        Due.state("by its first STEP", first, 4, 0, 0, 1, 1, 3);
        Desk last = tripped("X5 / X9 / X12", 0, 5);
        Due.state("by its last STEP, before a JOINT", last, 4, 0, 0, 0, 5, 0);
        Due.is("its joint", last.joint(0), 800);
        Due.is("the next", last.joint(1), 800);
        Due.is("the one behind", last.joint(2), 0);
        String[] programs = {"X5", "X5 M0 / X9", "X5 / G4 P3 / X9", "X5 M2 / X9"};
        for (String program : programs) {
            Desk end = tripped(program, 0, 5);
            Due.state("by its last STEP: " + program, end, 4, 0, 0, 0, 5, 0, 0, 5, 3000);
            Due.is("no joint: " + program, end.joint(0), 0);
        }
        // The way round goes 5, 1; 5, 2; 4, 3; 3, 4; 2, 5 from its centre.
        Desk round = tripped("X19 Y9 / G3 F500 I-5 / G1 X30", 1, 14);
        Due.state("on a way round", round, 4, 0, 0, 1, 5, 23);
        Due.at("on a way round", round, 16, 14, 0);
    }

    private static void countsSinceMade() {
        Due.says("state: 7 and 8 count since the object was made");
        Desk desk = Due.quick("X3");
        desk.advance(7);
        Due.is("STEPS of the first run", desk.state(7), 3);
        Due.is("ticks of the first run", desk.state(8), 7);
        desk.clear();
        desk.set(3, 1000);
        Due.load(desk, "X5 / X1");
        desk.start();
        desk.advance(2);
        desk.hold();
        desk.advance(5);
        desk.resume();
        desk.advance(100);
        Due.is("STEPS of both", desk.state(7), 9);
        Due.is("ticks of both", desk.state(8), 114);
        desk.trip(0, 2);
        desk.start();
        desk.advance(50);
        desk.stop();
        Due.is("STEPS of all three", desk.state(7), 10);
        Due.is("ticks of all three", desk.state(8), 164);
        desk.start();
        Due.is("a start counts nothing", desk.state(7), 10);
    }

    private static void allTicks() {
        Due.says("state: 8 counts all ticks of advance, also those in which nothing is done");
        Desk desk = Due.with("G4 P5 / X1 M0 / X9");
        desk.advance(3);
        Due.is("STANDS", desk.state(8), 3);
        desk.start();
        desk.hold();
        desk.advance(4);
        Due.is("HOLDS in a DWELL", desk.state(8), 7);
        desk.resume();
        desk.advance(5);
        Due.is("DWELLS", desk.state(8), 12);
        desk.hold();
        desk.advance(8);
        Due.is("HOLDS at 0", desk.state(8), 20);
        desk.resume();
        desk.advance(100);
        Due.is("WAITS", desk.state(0), 3);
        Due.is("WAITS", desk.state(8), 120);
        desk.trip(0, 2);
        desk.resume();
        desk.advance(1000);
        Due.is("TRIPPED", desk.state(0), 4);
        Due.is("TRIPPED", desk.state(8), 1120);
        Due.is("advance(0)", desk.advance(0), 0);
        Due.is("advance(0)", desk.state(8), 1120);
        desk.stop();
        desk.advance(3000);
        Due.is("STANDS again", desk.state(8), 4120);
    }

    // ---- advance and check ----

    private static void badAdvance() {
        Due.says("advance answers BAD, and nothing is counted, for a number that is not 0..3000");
        int[] none = {-1, 3001, -3000, 4000, MIN, MAX};
        for (int n : none) {
            Desk desk = Due.quick("X9");
            desk.advance(4);
            Due.is("advance(" + n + ")", desk.advance(n), MillDesk.BAD);
            Due.state("behind advance(" + n + ")", desk, 1, 0, 800, 0, 2, 7, 0, 2, 4);
            Due.is("advance(1)", desk.advance(1), 1);
        }
    }

    private static void checkWithoutLines() {
        Due.says("check without LINES is 0");
        Due.is("new", new Desk().check(), 0);
        Desk desk = Due.with("X1001");
        Due.is("a WRONG LINE", desk.check(), 6);
        desk.clear();
        Due.is("cleared", desk.check(), 0);
        Due.is("after without LINES", desk.after(0, 0), MillDesk.BAD);
    }

    // ---- DWELLS ----

    private static void lastTickOfADwell() {
        Due.says("advance: with the last tick of a DWELL what comes next begins at once, in the same tick");
        String[] programs = {"G4 P2 / X5", "G4 P2 M0", "G4 P2", "G4 P2 / G4 P3", "G4 P2 / M0", "G4 P2 M2 / X5",
            "G4 P2 / G4 P0 / F5 / X0 / X5"};
        int[][] wants = {{1, 0, 0, 1, 0, 5, 0}, {3, 0, 0, 0, 0, 0, 0}, {0, 0, 0, -1, 0, 0, 0}, {2, 0, 0, 1, 0, 0, 3},
            {3, 0, 0, 1, 0, 0, 0}, {0, 0, 0, -1, 0, 0, 0}, {1, 0, 0, 4, 0, 5, 0}};
        for (int i = 0; i < programs.length; i++) {
            Desk desk = Due.started(programs[i]);
            desk.advance(1);
            Due.state("before the last tick of " + programs[i], desk, 2, 0, 0, 0, 0, 0, 1);
            desk.advance(1);
            Due.state("behind the last tick of " + programs[i], desk, wants[i]);
            Desk both = Due.started(programs[i]);
            both.advance(2);
            Due.state("both ticks of " + programs[i], both, wants[i]);
        }
    }

    private static void nextTickOfAWay() {
        Due.says("advance: a way is gone from the next tick on");
        Desk desk = Due.quick("G4 P2 / X1");
        desk.advance(2);
        Due.is("nothing is gone yet", desk.state(2), 0);
        Due.paces("the ticks of the way", desk, 200, 400, 300, 0);
        Due.state("the end", desk, 0, 0, 0, -1, 0, 0, 0, 1, 6);
        Desk dwells = Due.started("G4 P2 / G4 P2 / X1");
        dwells.advance(2);
        Due.state("another DWELL is whole", dwells, 2, 0, 0, 1, 0, 0, 2);
        dwells.advance(1);
        Due.state("its first tick", dwells, 2, 0, 0, 1, 0, 0, 1);
    }
}
