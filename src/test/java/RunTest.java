/** Promises 7 to 13, 15 and 16: how a program runs, and what holds, resumes, stops and trips it. */
public final class RunTest {
    public static void main(String[] args) {
        advancing();
        straightSteps();
        roundSteps();
        paces();
        manyStepsInATick();
        overJoints();
        holding();
        holdingEnds();
        resuming();
        stopping();
        tripping();
        trippingAtEnds();
        switches();
        asking();
        joints();
        bends();
        roundJoints();
        beginnings();
        dwelling();
        Due.end("RunTest");
    }

    // ---- promise 7 ----

    private static void advancing() {
        Desk desk = new Desk();
        Due.is("advance(-1)", desk.advance(-1), MillDesk.BAD);
        Due.is("advance(3001)", desk.advance(3001), MillDesk.BAD);
        Due.is("advance of the least int", desk.advance(Integer.MIN_VALUE), MillDesk.BAD);
        Due.is("advance of the greatest int", desk.advance(Integer.MAX_VALUE), MillDesk.BAD);
        Due.is("nothing is counted", desk.state(8), 0);
        Due.is("advance(0)", desk.advance(0), 0);
        Due.is("no tick", desk.state(8), 0);
        Due.is("advance(3000)", desk.advance(3000), 0);
        Due.is("ticks while it STANDS", desk.state(8), 3000);
        Desk runs = Due.started("X5");
        runs.advance(3);
        Due.is("advance(-1) while it RUNS", runs.advance(-1), MillDesk.BAD);
        Due.is("advance(3001) while it RUNS", runs.advance(3001), MillDesk.BAD);
        Due.is("advance(0) while it RUNS", runs.advance(0), 0);
        Due.state("nothing changed", runs, 1, 0, 60, 0, 0, 5, 0, 0, 3);
        Due.is("the whole way", runs.advance(3000), 5);
        Due.state("at its end", runs, 0, 0, 0, -1, 0, 0, 0, 5, 3003);
    }

    private static void straightSteps() {
        Due.way("3, 1", Due.started("X3 Y1"), 0, 1, 1, 0, 2, 1, 3, 1);
        Due.way("1, 3", Due.started("X1 Y3"), 0, 1, 0, 1, 1, 2, 1, 3);
        Due.way("4, 2", Due.started("Z4 Y2"), 2, 1, 1, 1, 2, 1, 3, 2, 4, 2);
        Desk back = Due.started("X5 Y4 Z4 / M0 / G1 F50 X0 Y2 Z4");
        back.advance(1000);
        back.resume();
        // Of 2: (4 + 5) / 10, (8 + 5) / 10, (12 + 5) / 10, (16 + 5) / 10.
        Due.way("back 5, 2", back, 0, 1, 4, 4, 3, 3, 2, 3, 1, 2, 0, 2);
        Due.is("Z did not move", back.at(2), 4);
        Desk home = Due.started("X2 Y4 / M0 / G1 / G28 X9 Y9");
        home.advance(1000);
        home.resume();
        Due.way("home 2, 4", home, 0, 1, 1, 3, 1, 2, 0, 1, 0, 0);
    }

    private static void roundSteps() {
        int[] on = {12, 11, 11, 12, 10, 12, 9, 12, 8, 11, 8, 10, 8, 9, 9, 8, 10, 8, 11, 8, 12, 9, 12, 10};
        int[] back = {12, 9, 11, 8, 10, 8, 9, 8, 8, 9, 8, 10, 8, 11, 9, 12, 10, 12, 11, 12, 12, 11, 12, 10};
        String[] planes = {"X12 Y10 / M0 / F99 G17 I-2", "Z12 X10 / M0 / F99 G18 K-2", "Y12 Z10 / M0 / F99 G19 J-2"};
        int[][] axes = {{0, 1}, {2, 0}, {1, 2}};
        for (int i = 0; i < 3; i++) {
            Desk turnsOn = Due.started(planes[i] + " G3");
            turnsOn.advance(1000);
            turnsOn.resume();
            Due.is("STEPS once round", turnsOn.state(5), 12);
            Due.way("on in plane " + (17 + i), turnsOn, axes[i][0], axes[i][1], on);
            Due.is("once round is the end", turnsOn.state(0), 0);
            Desk turnsBack = Due.started(planes[i] + " G2");
            turnsBack.advance(1000);
            turnsBack.resume();
            Due.way("back in plane " + (17 + i), turnsBack, axes[i][0], axes[i][1], back);
            Due.is("once round is the end", turnsBack.state(0), 0);
        }
        Desk quarter = Due.started("X12 Y10 / M0 / F99 G3 I-2 X10 Y12");
        quarter.advance(1000);
        quarter.resume();
        Due.is("STEPS of a quarter", quarter.state(5), 3);
        Due.way("a quarter", quarter, 0, 1, 12, 11, 11, 12, 10, 12);
        Due.is("a quarter is the end", quarter.state(0), 0);
        Desk one = Due.started("X1 Y1 / M0 / F99 G2 I1");
        one.advance(1000);
        one.resume();
        Due.way("radius 1", one, 0, 1, 1, 2, 2, 2, 3, 2, 3, 1, 3, 0, 2, 0, 1, 0, 1, 1);
    }

    private static void paces() {
        Desk desk = Due.quick("X5");
        Due.paces("5000 long", desk, 200, 400, 600, 800, 1000, 800, 600, 400);
        Due.is("not there", desk.state(0), 1);
        Due.is("the last STEP", desk.advance(1), 1);
        Due.state("there", desk, 0, 0, 0, -1, 0, 0, 0, 5, 9);
        Desk slow = Due.with("G1 F30 X2");
        slow.start();
        Due.paces("SPEED 30", slow, 20, 30, 30, 30);
        // 20 and 65 times 30 are 1970; with 30 left 30 + 10 is too much, 25 + 5 is not.
        Due.is("30 left", slow.advance(62), 1);
        Due.paces("the last but one", slow, 30 - 5);
        Due.is("the end", slow.advance(1), 1);
        Due.state("the end", slow, 0, 0, 0, -1, 0, 0, 0, 2, 68);
        Desk fastest = Due.with("G1 F500 X50");
        fastest.set(3, 50);
        fastest.start();
        Due.paces("FASTEST below the SPEED", fastest, 20, 40, 50, 50);
        Desk crawl = Due.with("G1 F1 X1");
        crawl.start();
        Due.is("a STEP at pace 1 takes 1000 ticks", crawl.advance(999), 0);
        Due.is("the last tick", crawl.advance(1), 1);
        Due.is("it STANDS", crawl.state(0), 0);
    }

    private static void manyStepsInATick() {
        Desk desk = Due.quick("X100");
        Due.is("ten ticks", desk.advance(10), 11);
        Due.is("pace 2000", desk.state(2), 2000);
        Due.is("two STEPS in a tick", desk.advance(1), 2);
        Due.at("two STEPS in a tick", desk, 13, 0, 0);
        // BLOCKS of one STEP: a tick may go over a whole one.
        StringBuilder ones = new StringBuilder("X1");
        for (int i = 2; i <= 30; i++) {
            ones.append(" / X").append(i);
        }
        Desk blocks = Due.with(ones.toString());
        blocks.set(3, 2000);
        blocks.set(4, 200);
        blocks.set(6, 6);
        blocks.start();
        // The sixth end is more than 5000 far; 1200 + 1000 + .. + 200 is 4200.
        Due.paces("six ahead", blocks, 200, 400, 600, 800, 1000, 1200);
        Due.is("4200 gone", blocks.at(0), 4);
        Due.is("at hand", blocks.state(3), 4);
        // 5800 to the sixth end: 1400 + 1200 + .. + 200 is 5600.
        Due.paces("six ahead", blocks, 1400);
        Due.is("5600 gone", blocks.at(0), 5);
        // 5400 to the sixth end: 1371 + 1171 + 971 + 771 + 571 + 371 + 171 is 5397.
        Due.paces("six ahead", blocks, 1371);
        Due.is("6971 gone", blocks.at(0), 6);
        Due.is("the rest", blocks.advance(100), 24);
        Due.is("it STANDS", blocks.state(0), 0);
    }

    private static void overJoints() {
        Desk desk = Due.with("G1 F300 X2 / F100 X4");
        desk.set(4, 50);
        desk.start();
        Due.is("the lesser SPEED", desk.joint(0), 100);
        Due.paces("up", desk, 50, 100, 150, 200, 250, 300);
        // 1050 gone, 950 left down to 100: 300 + 250 + 200 + 150 is 900.
        Due.paces("down", desk, 300);
        // 650 left: 250 + 200 + 150 is 600, but 251 + 201 + 151 + 101 is 704.
        Due.paces("down", desk, 250);
        Due.is("STEPS done", desk.state(4), 1);
        Due.is("STEPS left", desk.state(5), 1);
        Desk corner = Due.quick("X1 / Y1");
        Due.paces("to the corner", corner, 200, 400, 300);
        Due.is("before the corner", corner.state(3), 0);
        Due.paces("at the corner the pace stays", corner, 100);
        Due.state("the next is at hand", corner, 1, 0, 100, 1, 0, 1, 0, 1, 4);
        Due.paces("from the corner", corner, 300);
        Desk tied = Due.quick("X1 / G4 P0 / G92 X0 / X0 / G53 X1 / G91 / X1");
        Due.is("nothing between that takes ticks", tied.joint(0), 2000);
    }

    // ---- promises 8 and 9 ----

    private static void holding() {
        Desk desk = Due.started("X100");
        desk.advance(5);
        Due.yes("hold", desk.hold());
        Due.is("it HOLDS", desk.state(1), 1);
        Due.no("hold again", desk.hold());
        Due.paces("down", desk, 80, 60, 40, 20, 0, 0);
        Due.state("held", desk, 1, 1, 0, 0, 0, 100, 0, 0, 11);
        Due.is("held for long", desk.advance(3000), 0);
        Due.yes("resume", desk.resume());
        Due.is("it HOLDS no more", desk.state(1), 0);
        Due.no("resume again", desk.resume());
        Due.paces("up", desk, 20, 40);
        Desk between = Due.with("G1 F50 X9");
        between.set(4, 30);
        between.start();
        between.advance(2);
        between.hold();
        Due.paces("50 less 30, then 0", between, 20, 0, 0);
        Desk dwells = Due.started("G4 P5 / X1");
        Due.yes("hold of a DWELL", dwells.hold());
        dwells.advance(10);
        Due.state("a held DWELL", dwells, 2, 1, 0, 0, 0, 0, 5, 0, 10);
        Due.yes("resume of a DWELL", dwells.resume());
        dwells.advance(2);
        Due.state("a DWELL", dwells, 2, 0, 0, 0, 0, 0, 3, 0, 12);
    }

    /** What comes when the end of a way is reached while the machine HOLDS. */
    private static void holdingEnds() {
        String[] programs = {"X1", "X1 / G4 P5", "X1 M0"};
        int[] modes = {0, 2, 3};
        for (int i = 0; i < 3; i++) {
            Desk desk = Due.quick(programs[i]);
            desk.advance(3);
            Due.is("900 gone", desk.state(2), 300);
            desk.hold();
            Due.is("the end is reached", desk.advance(1), 1);
            Due.is("state behind " + programs[i], desk.state(0), modes[i]);
            Due.is("HOLDS behind " + programs[i], desk.state(1), modes[i] == 2 ? 1 : 0);
            Due.is("pace behind " + programs[i], desk.state(2), 0);
        }
        Desk dwells = Due.quick("X1 / G4 P5 / X2");
        dwells.advance(3);
        dwells.hold();
        dwells.advance(50);
        Due.state("the DWELL is held", dwells, 2, 1, 0, 1, 0, 0, 5, 1, 53);
        dwells.resume();
        dwells.advance(5);
        Due.state("the DWELL is over", dwells, 1, 0, 0, 2, 0, 1, 0, 1, 58);
        Desk trips = Due.quick("X9");
        trips.trip(0, 3);
        trips.advance(4);
        trips.hold();
        Due.is("2600 gone", trips.advance(1), 0);
        Due.is("HOLDS on its way", trips.state(1), 1);
        Due.is("3000 gone", trips.advance(1), 1);
        Due.state("TRIPPED while it HELD", trips, 4, 0, 0, 0, 3, 6, 0, 3, 6);
        Desk over = Due.quick("X2 / X9");
        over.advance(4);
        over.hold();
        over.advance(1);
        Due.state("HOLDS over a JOINT", over, 1, 1, 600, 1, 0, 7, 0, 2, 5);
    }

    private static void resuming() {
        Due.no("resume while it STANDS", new Desk().resume());
        Desk desk = Due.started("X3");
        Due.no("resume while it RUNS", desk.resume());
        Due.no("resume while it DWELLS", Due.started("G4 P3").resume());
        Desk waits = Due.started("M0 / M0 / G4 P2 M0 / X1 M0 / M0");
        int[] modes = {3, 3, 2, 1, 3, 0};
        int[] lines = {0, 1, 2, 3, 4, -1};
        for (int i = 0; i < modes.length; i++) {
            Due.is("state " + i, waits.state(0), modes[i]);
            Due.is("LINE " + i, waits.state(3), lines[i]);
            Due.no("hold while it WAITS or STANDS", modes[i] != 1 && modes[i] != 2 && waits.hold());
            waits.advance(100);
            Due.is("it WAITS or STANDS " + i, waits.state(0), modes[i] == 0 ? 0 : 3);
            Due.is("resume " + i, waits.resume() ? 1 : 0, modes[i] == 0 ? 0 : 1);
        }
        Due.is("the way was gone", waits.at(0), 1);
        Desk tripped = Due.with("X3");
        tripped.trip(0, 1);
        tripped.start();
        tripped.advance(100);
        Due.no("resume while TRIPPED", tripped.resume());
        Due.no("hold while TRIPPED", tripped.hold());
    }

    // ---- promise 10 ----

    private static void stopping() {
        Desk desk = new Desk();
        Due.no("stop while it STANDS", desk.stop());
        Due.load(desk, "X10 / G4 P9 / M0");
        desk.start();
        desk.advance(15);
        Due.yes("on its way", desk.state(2) > 0 && desk.at(0) == 2);
        desk.hold();
        Due.yes("stop while it RUNS and HOLDS", desk.stop());
        Due.state("stopped", desk, 0, 0, 0, -1, 0, 0, 0, 2, 15);
        Due.at("stopped", desk, 2, 0, 0);
        Due.no("stop again", desk.stop());
        Due.is("no joint", desk.joint(0), MillDesk.BAD);
        Due.is("nothing goes on", desk.advance(100), 0);
        Due.yes("start again", desk.start());
        Due.state("started again", desk, 1, 0, 0, 0, 0, 8, 0, 2, 115);
        desk.advance(1000);
        Due.is("it WAITS", desk.state(0), 3);
        Due.yes("stop while it WAITS", desk.stop());
        Due.is("stopped", desk.state(0), 0);
        Due.yes("start at the end", desk.start());
        Due.is("it DWELLS", desk.state(0), 2);
        desk.hold();
        Due.yes("stop while it DWELLS", desk.stop());
        Due.state("stopped", desk, 0, 0, 0, -1, 0, 0, 0, 10, 1115);
        Desk part = Due.started("X5");
        part.advance(5);
        part.stop();
        part.start();
        Due.paces("a part of a STEP is forgotten", part, 20);
        Due.is("no STEP", part.state(4), 0);
        Due.is("ten ticks make the first STEP", part.advance(8), 0);
        Due.is("the tenth", part.advance(1), 1);
    }

    // ---- promise 11 ----

    private static void tripping() {
        Desk desk = Due.with("X10 / X20");
        Due.yes("trip", desk.trip(0, 4));
        desk.start();
        Due.is("joint before", desk.joint(0), 800);
        Due.is("up to the switch", desk.advance(3000), 4);
        Due.state("TRIPPED", desk, 4, 0, 0, 0, 4, 6, 0, 4, 3000);
        Due.at("TRIPPED", desk, 4, 0, 0);
        Due.is("joint while TRIPPED", desk.joint(0), 800);
        Due.is("joint 1 while TRIPPED", desk.joint(1), 0);
        Due.is("nothing more is done", desk.advance(100), 0);
        Due.state("still TRIPPED", desk, 4, 0, 0, 0, 4, 6, 0, 4, 3100);
        Due.yes("a switch may be taken off", desk.trip(0, -1));
        Due.is("that does not help", desk.advance(100), 0);
        Due.is("TRIPPED", desk.state(0), 4);
        desk.trip(0, 4);
        Due.yes("stop", desk.stop());
        Due.yes("start from the switch", desk.start());
        Due.is("who is there already is not TRIPPED", desk.advance(3000), 16);
        Due.at("the end", desk, 20, 0, 0);
        Due.load(desk, "G28 X0");
        desk.start();
        Due.is("the switch stays", desk.advance(3000), 16);
        Due.is("TRIPPED again", desk.state(0), 4);
        desk.stop();
        desk.trip(0, -1);
        desk.start();
        Due.is("no switch", desk.advance(3000), 4);
        Due.is("it STANDS", desk.state(0), 0);
    }

    private static void trippingAtEnds() {
        Desk joined = Due.with("X3 / X6");
        joined.trip(0, 3);
        joined.start();
        joined.advance(3000);
        Due.state("at the end of the first BLOCK", joined, 4, 0, 0, 0, 3, 0, 0, 3, 3000);
        Due.is("its joint", joined.joint(0), 800);
        Desk last = Due.with("X3");
        last.trip(0, 3);
        last.start();
        last.advance(3000);
        Due.state("at the end of the last BLOCK", last, 4, 0, 0, 0, 3, 0, 0, 3, 3000);
        Due.yes("stop", last.stop());
        Desk waits = Due.with("X3 M0");
        waits.trip(0, 3);
        waits.start();
        waits.advance(3000);
        Due.is("TRIPPED before the PAUSE", waits.state(0), 4);
        Desk two = Due.with("X100");
        two.set(3, 2000);
        two.set(4, 200);
        two.trip(0, 12);
        two.start();
        two.advance(10);
        Due.is("the first of two STEPS in a tick", two.advance(1), 1);
        Due.at("the first of two STEPS in a tick", two, 12, 0, 0);
    }

    private static void switches() {
        Desk desk = Due.with("X9 Y3");
        Due.no("axis -1", desk.trip(-1, 1));
        Due.no("axis 3", desk.trip(3, 1));
        Due.no("the least axis", desk.trip(Integer.MIN_VALUE, 1));
        Due.no("the greatest axis", desk.trip(Integer.MAX_VALUE, 1));
        Due.yes("1000", desk.trip(1, 1000));
        Due.yes("0", desk.trip(1, 0));
        Due.yes("2", desk.trip(1, 2));
        Due.no("1001", desk.trip(1, 1001));
        Due.no("-2", desk.trip(1, -2));
        Due.no("the least place", desk.trip(1, Integer.MIN_VALUE));
        Due.no("the greatest place", desk.trip(1, Integer.MAX_VALUE));
        desk.start();
        // Y: (6 k + 9) / 18 is 2 behind 5 STEPS.
        Due.is("the switch of Y", desk.advance(3000), 5);
        Due.at("the switch of Y", desk, 5, 2, 0);
        desk.stop();
        Due.load(desk, "X20 / Y1 / Y2");
        desk.start();
        Due.is("along other axes alone, then to it again", desk.advance(3000), 17);
        Due.is("TRIPPED", desk.state(0), 4);
        Desk round = Due.with("X12 Y10 / G3 F500 I-2");
        round.trip(1, 10);
        round.start();
        round.advance(3000);
        Due.is("TRIPPED on the first way", round.state(3), 0);
        round.stop();
        round.start();
        round.advance(3000);
        Due.state("TRIPPED on the way round", round, 4, 0, 0, 1, 6, 6);
        Due.at("TRIPPED on the way round", round, 8, 10, 0);
        Desk later = Due.started("X9 Z9");
        later.advance(20);
        int z = later.at(2);
        Due.yes("while it RUNS", later.trip(2, z));
        Due.yes("while it RUNS", later.trip(0, 7));
        later.advance(3000);
        Due.at("for STEPS to come alone", later, 7, 0, 7);
    }

    // ---- promises 12 and 13 ----

    private static void asking() {
        Desk desk = Due.started("X1 Y2 Z3");
        desk.advance(100);
        Due.at("at", desk, 1, 2, 3);
        int[] none = {-1, 3, Integer.MIN_VALUE, Integer.MAX_VALUE};
        for (int axis : none) {
            Due.is("at(" + axis + ")", desk.at(axis), MillDesk.BAD);
        }
        int[] others = {-1, 9, Integer.MIN_VALUE, Integer.MAX_VALUE};
        for (int what : others) {
            Due.is("state(" + what + ")", desk.state(what), MillDesk.BAD);
        }
        Desk runs = Due.quick("X3 / G4 P7 / X4 M0");
        Due.state("started", runs, 1, 0, 0, 0, 0, 3, 0, 0, 0);
        runs.advance(3);
        Due.state("1200 gone", runs, 1, 0, 600, 0, 1, 2, 0, 1, 3);
        runs.advance(4);
        Due.state("DWELLS", runs, 2, 0, 0, 1, 0, 0, 7, 3, 7);
        runs.advance(6);
        Due.state("DWELLS", runs, 2, 0, 0, 1, 0, 0, 1, 3, 13);
        runs.advance(1);
        Due.state("the next way", runs, 1, 0, 0, 2, 0, 1, 0, 3, 14);
        runs.advance(4);
        Due.state("WAITS", runs, 3, 0, 0, 2, 0, 0, 0, 4, 18);
        runs.advance(10);
        Due.state("WAITS", runs, 3, 0, 0, 2, 0, 0, 0, 4, 28);
        runs.resume();
        Due.state("STANDS", runs, 0, 0, 0, -1, 0, 0, 0, 4, 28);
        runs.clear();
        Due.is("STEPS since it was made", runs.state(7), 4);
    }

    // ---- promise 15 ----

    private static void joints() {
        Desk desk = Due.with("G1 F700 X10 / F600 X20 / F650 X30 / F500 X40 / X50 / F400 X60 / F300 X70 / X80");
        desk.set(6, 1);
        Due.is("joint while it STANDS", desk.joint(0), MillDesk.BAD);
        desk.start();
        int[] wants = {600, 600, 500, 500, 400, 300};
        for (int k = 0; k < 6; k++) {
            Due.is("joint(" + k + ")", desk.joint(k), wants[k]);
        }
        int[] none = {-1, 6, Integer.MIN_VALUE, Integer.MAX_VALUE};
        for (int k : none) {
            Due.is("joint(" + k + ")", desk.joint(k), MillDesk.BAD);
        }
        for (int i = 0; i < 3000 && desk.state(3) < 5; i++) {
            desk.advance(1);
        }
        Due.is("from the BLOCK at hand on", desk.joint(0), 300);
        Due.is("the last one", desk.joint(1), 300);
        Due.is("behind the last", desk.joint(2), 0);
        Due.is("far behind the last", desk.joint(5), 0);
        Due.is("joint while it DWELLS", Due.started("G4 P3 / X1").joint(0), MillDesk.BAD);
        Due.is("joint while it WAITS", Due.started("M0 / X1").joint(0), MillDesk.BAD);
        joint("X10 / G4 P1 / X20 / X30", 0, 0, 0);
        joint("X10 M0 / X20 / X30", 0, 0, 0);
        joint("X10 / M0 / X20 / X30", 0, 0, 0);
        joint("X10 M2 / X20 / X30", 0, 0, 0);
        joint("X10 / M2 / X20 / X30", 0, 0, 0);
        joint("X10 / G4 P0 / X20 / X30", 800, 800, 0);
        joint("X10 / G1 F100 / X10 / G92 X3 / X5 / G0 G53 X30", 100, 100, 0);
        joint("X10 / Y10 / Y20", 0, 800, 0);
        joint("X10 / X0 / X10", 0, 0, 0);
        joint("Y10 / G1 F100 / G28 Y3 / G28 X3 / Y10", 0, 0, 0);
        joint("X10 Y10 / G1 F100 / G91 X-1 Y-1 / G90 G28 X0 Y0", 0, 100, 0);
    }

    private static void joint(String program, int... wants) {
        Desk desk = Due.started(program);
        for (int k = 0; k < wants.length; k++) {
            Due.is("joint(" + k + ") of " + program, desk.joint(k), wants[k]);
        }
    }

    private static void bend(String program, int bend, int want) {
        Desk desk = Due.with(program);
        desk.set(5, bend);
        desk.start();
        Due.is("joint of " + program + " with BEND " + bend, desk.joint(0), want);
    }

    private static void bends() {
        // c 23, m 29 (of 29.8), so BEND * 23 / 6.
        bend("X3 Y1 / X8 Y9", 100, 383);
        bend("X3 Y1 / X8 Y9", 208, 797);
        bend("X3 Y1 / X8 Y9", 209, 800);
        bend("X3 Y1 / X8 Y9", 1, 3);
        bend("X3 Y1 / X8 Y9", 0, 0);
        // c 25, m 35.
        bend("X3 Y1 Z2 / X8 Y9 Z3", 100, 250);
        // c 15, m just 25.
        bend("X5 / X8 Y4", 100, 150);
        bend("X10 / X20", 0, 800);
        // c is m, although the ways are not just in line: the root of 10001 * 10000 is 10000.
        bend("X100 Y1 / X200", 0, 800);
        bend("X10 / X10 Y10", 2000, 0);
        bend("X10 / X9 Y10", 2000, 0);
        bend("X1000 Y1000 Z500 / X500 Y0 Z1000", 2000, 0);
        bend("X500 Y500 Z500 / X1000 Y1000 Z1000", 0, 800);
        // c 500000, m 612372.
        bend("X500 Y500 / X1000 Y1000 Z500", 20, 88);
    }

    private static void roundJoints() {
        // Just in line with the DIRECTION at the start, and at the end, of ways round.
        bend("Y30 / G2 F500 I10 X10 Y40", 0, 500);
        bend("X30 / G3 F500 J10 X40 Y10", 0, 500);
        bend("G2 F500 I10 X10 Y10 / G1 X30", 0, 500);
        bend("G3 F500 J10 X10 Y10 / G1 Y30", 0, 500);
        joint("G1 F500 X30 / G3 J10 X40 Y10 / G1 Y50", 500, 500, 0);
        joint("G1 F500 X30 / G3 J10 X40 Y10 / G1 X50", 500, 0, 0);
        joint("Y40 / G1 F500 X30 / G2 J-10 X40 Y30 / G1 Y5", 0, 500, 500);
        joint("Y40 / G1 F500 X30 / G2 J-10 X40 Y30 / G1 Y50", 0, 500, 0);
        joint("X30 Y30 Z30 / G1 F500 X20 / G18 G3 K5", 0, 500, 0);
        // c 100, m 435; then just against the way.
        joint("X10 Y30 Z30 / G1 F500 X20 / G18 G3 K5", 119, 0, 0);
        joint("X30 Y30 Z30 / G1 F500 Z20 / G19 G3 J5 / G2 J5", 0, 500, 0);
        // From Z 30 down to 20: on the way round Y is -5 from the centre, so Z goes on down.
        joint("X30 Y20 Z30 / G1 F500 Z20 / G19 G3 J5 / G1 Z0", 0, 500, 500);
        // 15, 10 and 0, 5: c 50, m 90. At the end -3, 4 and 0, 8: c 32, m 40. 0, 8 and -9, 3: c 24, m 75.
        joint("X15 Y10 / G3 F1000 I-5 X14 Y13 / G1 Y21 / X5 Y24", 500, 800, 188, 0);
    }

    // ---- promise 16 ----

    private static void beginnings() {
        Desk nothing = Due.started("G92 X0 / G4 P0 / F100 / X0 / G91 X0 / M2 / X5");
        Due.state("a program without anything", nothing, 0, 0, 0, -1, 0, 0, 0, 0, 0);
        Due.is("does nothing", nothing.advance(100), 0);
        Desk dwells = Due.started("F100 / G4 P6 / X5");
        Due.state("a DWELL first", dwells, 2, 0, 0, 1, 0, 0, 6, 0, 0);
        Desk waits = Due.started("G20 / G4 P0 M0 / X5");
        Due.state("a PAUSE first", waits, 3, 0, 0, 1, 0, 0, 0, 0, 0);
        Due.yes("resume", waits.resume());
        Due.state("the way behind a PAUSE", waits, 1, 0, 0, 2, 0, 25, 0, 0, 0);
        Due.paces("the way behind a PAUSE", waits, 20);
        Desk zero = Due.started("X0 M0 / G4 P3 M2 / X1");
        Due.state("no way, but its PAUSE", zero, 3, 0, 0, 0, 0, 0, 0, 0, 0);
        zero.resume();
        Due.state("the DWELL behind a PAUSE", zero, 2, 0, 0, 1, 0, 0, 3, 0, 0);
        zero.advance(3);
        Due.state("END behind a DWELL", zero, 0, 0, 0, -1, 0, 0, 0, 0, 3);
    }

    private static void dwelling() {
        Desk desk = Due.started("G4 P2 / G4 P1 / X1 / G4 P1 M0 / G4 P1");
        Due.state("first", desk, 2, 0, 0, 0, 0, 0, 2);
        desk.advance(1);
        Due.state("a tick", desk, 2, 0, 0, 0, 0, 0, 1);
        desk.advance(1);
        Due.state("another DWELL at once", desk, 2, 0, 0, 1, 0, 0, 1);
        desk.advance(1);
        Due.state("a way at once", desk, 1, 0, 0, 2, 0, 1, 0);
        Due.paces("gone from the next tick on", desk, 20);
        desk.stop();
        desk.set(3, 2000);
        desk.set(4, 200);
        desk.start();
        desk.advance(6);
        Due.state("900 gone", desk, 1, 0, 300, 2, 0, 1, 0);
        desk.advance(1);
        Due.state("a DWELL at once", desk, 2, 0, 0, 3, 0, 0, 1);
        desk.advance(1);
        Due.state("WAITS at once", desk, 3, 0, 0, 3, 0, 0, 0);
        desk.resume();
        Due.state("the last DWELL", desk, 2, 0, 0, 4, 0, 0, 1);
        desk.advance(1);
        Due.state("STANDS at once", desk, 0, 0, 0, -1, 0, 0, 0);
    }
}
