/** The edges that the Terms name for BLOCKS, ways round, JOINTS and TICKS. */
public final class WayEdgeTest {
    // From 5, 0 once round with G3; a quarter is 7 STEPS. The other way it is the same with v turned.
    private static final int[] FIVE = {5, 1, 5, 2, 4, 3, 3, 4, 2, 5, 1, 5, 0, 5, -1, 5, -2, 5, -3, 4, -4, 3, -5, 2, -5, 1, -5, 0,
        -5, -1, -5, -2, -4, -3, -3, -4, -2, -5, -1, -5, 0, -5, 1, -5, 2, -5, 3, -4, 4, -3, 5, -2, 5, -1, 5, 0};
    private static final String[] AXES = {"X", "Y", "Z"}, CENTRES = {"I", "J", "K"};
    private static final int[][] PLANES = {{0, 1}, {2, 0}, {1, 2}};

    public static void main(String[] args) {
        someSteps();
        greatestDifference();
        partsOfADifference();
        onceRound();
        fromEachSide();
        ends();
        largestRound();
        smallestRound();
        between();
        lesserPace();
        turns();
        roots();
        roundTurns();
        holdsOnlyWhile();
        nothingTicks();
        dwellTicks();
        gain();
        paceOfTheBlock();
        holdPaces();
        lastEnd();
        jointPaces();
        jointsAhead();
        fewerEnds();
        intoTheNext();
        endOfABlock();
        stepLength();
        Due.end("WayEdgeTest");
    }

    /** A program behind a first way and a PAUSE, so that it begins elsewhere than at 0. */
    private static Desk from(String first, String program) {
        Desk desk = Due.started(first + " M0 / " + program);
        desk.advance(3000);
        Due.is("the PAUSE behind " + first, desk.state(0), 3);
        Due.yes("resume", desk.resume());
        return desk;
    }

    // ---- BLOCKS ----

    private static void someSteps() {
        Due.says("BLOCKS are ways with some STEPS");
        Due.state("a LINE that goes nowhere", Due.started("X0 Y0 / G91 Z0 / G90 G53 X0 / G28 Y0 / X1"), 1, 0, 0, 4, 0, 1);
        Due.is("nowhere at all", Due.started("X0 / G28 X7").state(0), 0);
        Desk none = Due.started("X5 / X5 / G91 X0 / G90 X6");
        Due.is("none between two BLOCKS", none.joint(0), 800);
        Due.is("two BLOCKS in all", none.joint(1), 0);
    }

    private static void greatestDifference() {
        Due.says("FAST and STRAIGHT ones have N, the greatest difference of an axis");
        Due.is("X", Due.started("X7 Y3 Z5").state(5), 7);
        Due.is("Y", Due.started("X3 Y7 Z5").state(5), 7);
        Due.is("Z", Due.started("G1 F9 X3 Y5 Z7").state(5), 7);
        Due.is("equal ones", Due.started("X7 Y7 Z7").state(5), 7);
        Due.is("one STEP", Due.started("Z1").state(5), 1);
        Due.is("1000 STEPS", Due.started("X1000 Y999").state(5), 1000);
        Due.is("back", from("X9 Y9 Z9", "X8 Y2 Z4").state(5), 7);
        Due.is("back and on", from("X9 Y9 Z9", "X14 Y2 Z9").state(5), 7);
    }

    private static void partsOfADifference() {
        Due.says("behind k STEPS an axis has gone (2 k |d| + N) / (2 N) of its difference d, rounded down");
        Due.way("1 of 2", Due.started("X2 Y1"), 0, 1, 1, 1, 2, 1);
        Due.way("1 of 3", Due.started("X3 Y1"), 0, 1, 1, 0, 2, 1, 3, 1);
        Due.way("1 of 4", Due.started("X4 Y1"), 0, 1, 1, 0, 2, 1, 3, 1, 4, 1);
        Due.way("3 of 4", Due.started("X4 Y3"), 0, 1, 1, 1, 2, 2, 3, 2, 4, 3);
        Due.way("0 of 2", Due.started("Y2"), 0, 1, 0, 1, 0, 2);
        Due.way("2 of 2", Due.started("X2 Z2"), 0, 2, 1, 1, 2, 2);
        Due.way("1 of 2 back", from("X2 Y1", "X0 Y0"), 0, 1, 1, 0, 0, 0);
        Due.way("3 of 4 back", from("X4 Y3", "X0 Y0"), 0, 1, 3, 2, 2, 1, 1, 1, 0, 0);
        Due.way("2 of 5 back", from("Z5 Y2", "Y0 Z0"), 2, 1, 4, 2, 3, 1, 2, 1, 1, 0, 0, 0);
        // 1 of 1000 comes with the 500th STEP; of 999 the last but one is not gone with the last but one.
        int[][] stops = {{499, 0, 499}, {500, 1, 500}, {501, 1, 500}, {999, 1, 998}, {1, 0, 1}};
        for (int[] stop : stops) {
            Desk desk = Due.with("X1000 Y1 Z999");
            desk.set(3, 2000);
            desk.set(4, 200);
            desk.trip(0, stop[0]);
            desk.start();
            Due.is("STEPS up to " + stop[0], desk.advance(3000), stop[0]);
            Due.at("behind " + stop[0] + " of 1000", desk, stop[0], stop[1], stop[2]);
        }
    }

    // ---- ways round ----

    /** A way round a centre at 20, 20 in a plane, from u, v; words are those of its end, if it has one. */
    private static Desk round(int plane, int motion, int u, int v, String end) {
        String first = AXES[PLANES[plane][0]];
        String second = AXES[PLANES[plane][1]];
        String centre = CENTRES[PLANES[plane][0]] + -u + " " + CENTRES[PLANES[plane][1]] + -v;
        return from(first + (20 + u) + " " + second + (20 + v),
            "F400 G" + (17 + plane) + " G" + motion + " " + centre + " " + end + " / G4 P9");
    }

    private static String endAt(int plane, int u, int v) {
        return AXES[PLANES[plane][0]] + (20 + u) + " " + AXES[PLANES[plane][1]] + (20 + v);
    }

    private static void onceRound() {
        Due.says("A STEP goes to that of u + a, v + b; u + a, v; u, v + b, whose sum of squares is nearest to that of the start");
        for (int plane = 0; plane < 3; plane++) {
            for (int motion = 2; motion <= 3; motion++) {
                Desk desk = round(plane, motion, 5, 0, "G90");
                Due.is("STEPS once round", desk.state(5), 28);
                int[] places = new int[FIVE.length];
                for (int i = 0; i < FIVE.length; i += 2) {
                    places[i] = 20 + FIVE[i];
                    places[i + 1] = 20 + (motion == 3 ? FIVE[i + 1] : -FIVE[i + 1]);
                }
                Due.way("plane " + (17 + plane) + " G" + motion, desk, PLANES[plane][0], PLANES[plane][1], places);
                Due.is("the end", desk.state(0), 2);
            }
        }
    }

    private static void fromEachSide() {
        Due.says("The DIRECTION is -v, u with 3, v, -u with 2; a, b are the signs of these (-1, 0, 1)");
        int[][] firsts = {{5, 0, 5, 1, 5, -1}, {0, 5, -1, 5, 1, 5}, {-5, 0, -5, -1, -5, 1}, {0, -5, 1, -5, -1, -5},
            {4, 3, 3, 4, 5, 2}, {3, 4, 2, 5, 4, 3}, {-3, 4, -4, 3, -2, 5}, {-4, 3, -5, 2, -3, 4},
            {-4, -3, -3, -4, -5, -2}, {-3, -4, -2, -5, -4, -3}, {3, -4, 4, -3, 2, -5}, {4, -3, 5, -2, 3, -4}};
        for (int[] f : firsts) {
            for (int plane = 0; plane < 3; plane++) {
                String what = "from " + f[0] + ", " + f[1] + " in plane " + (17 + plane);
                Desk on = round(plane, 3, f[0], f[1], "G90");
                Due.way(what + " with 3", on, PLANES[plane][0], PLANES[plane][1], 20 + f[2], 20 + f[3]);
                Desk back = round(plane, 2, f[0], f[1], "G90");
                Due.way(what + " with 2", back, PLANES[plane][0], PLANES[plane][1], 20 + f[4], 20 + f[5]);
            }
        }
    }

    private static void ends() {
        Due.says("STEPS go on till the tool is at its end (once round if that is the start)");
        int[][] ends = {{4, 3, 3}, {3, 4, 4}, {0, 5, 7}, {-3, 4, 10}, {-4, 3, 11}, {-5, 0, 14}, {-4, -3, 17}, {-3, -4, 18},
            {0, -5, 21}, {3, -4, 24}, {4, -3, 25}, {5, 0, 28}};
        for (int[] end : ends) {
            for (int plane = 0; plane < 3; plane++) {
                String what = "to " + end[0] + ", " + end[1] + " in plane " + (17 + plane);
                Desk on = round(plane, 3, 5, 0, endAt(plane, end[0], end[1]));
                Due.is(what + " with 3", on.state(5), end[2]);
                Due.is(what + " with 3: gone", on.advance(3000), end[2]);
                Due.is(what + ": first", on.at(PLANES[plane][0]), 20 + end[0]);
                Due.is(what + ": second", on.at(PLANES[plane][1]), 20 + end[1]);
                Due.is(what + " with 2", round(plane, 2, 5, 0, endAt(plane, end[0], end[1])).state(5),
                    end[2] == 28 ? 28 : 28 - end[2]);
            }
        }
        Due.is("the start as the end, told", round(0, 3, 5, 0, "X25").state(5), 28);
        Due.is("the start as the end, told by 91", round(0, 3, 5, 0, "G91 X0 Y0").state(5), 28);
    }

    private static void largestRound() {
        Due.says("more than 300 STEPS from it (a way round of 300)");
        Desk desk = from("X600 Y300", "F1000 G3 I-300");
        Due.is("STEPS once round", desk.state(5), 1696);
        Due.is("once round", desk.advance(3000), 1696);
        Due.at("once round", desk, 600, 300, 0);
        Desk half = from("X600 Y300", "F1000 G3 I-300 X0");
        Due.is("half round", half.advance(3000), 848);
        Due.at("half round", half, 0, 300, 0);
        Desk quarter = from("X600 Y300", "F1000 G3 I-300 X300 Y600");
        Due.is("a quarter", quarter.state(5), 424);
        Desk three = from("X600 Y300", "F1000 G2 I-300 X300 Y600");
        Due.is("three quarters", three.state(5), 1272);
    }

    private static void smallestRound() {
        Due.says("the centre is the start (a way round of 1)");
        int[] one = {1, 1, 0, 1, -1, 1, -1, 0, -1, -1, 0, -1, 1, -1, 1, 0};
        Desk desk = round(0, 3, 1, 0, "G90");
        Due.is("STEPS once round", desk.state(5), 8);
        int[] places = new int[one.length];
        for (int i = 0; i < one.length; i++) {
            places[i] = 20 + one[i];
        }
        Due.way("round 1", desk, 0, 1, places);
        Due.is("a quarter", round(0, 3, 1, 0, "X20 Y21").state(5), 2);
        Due.is("three quarters", round(0, 2, 1, 0, "X20 Y21").state(5), 6);
    }

    // ---- JOINTS ----

    private static void joints(String program, int... wants) {
        Desk desk = Due.started(program);
        for (int k = 0; k < wants.length; k++) {
            Due.is("joint(" + k + ") of " + program, desk.joint(k), wants[k]);
        }
    }

    private static void between() {
        Due.says("There is a JOINT between two BLOCKS if the machine does nothing between that takes ticks or waits");
        joints("X10 / X20 / X30", 800, 800, 0);
        joints("X10 / G4 P0 / X20", 800, 0);
        joints("X10 / G4 P1 / X20 / X30", 0, 0);
        joints("X10 / G4 P1000 / X20 / X30", 0, 0);
        joints("X10 M0 / X20 / X30", 0, 0);
        joints("X10 / M0 / X20 / X30", 0, 0);
        joints("X10 / G4 P0 M0 / X20 / X30", 0, 0);
        joints("X10 / X10 M0 / X20 / X30", 0, 0);
        joints("X10 / X20 M0 / X30", 800, 0, 0);
        joints("X10 / X20 / G4 P1 / X30 / X40", 800, 0, 0);
        joints("X10 M2 / X20", 0, 0);
        joints("X10 / M2 / X20", 0, 0);
        joints("X10 / G4 P0 M2 / X20", 0, 0);
        joints("X10", 0, 0);
        joints("X10 / G92 X0 / F9 / G20 / G21 / X0 / G4 P0 / G53 X20 / X20", 800, 800, 0);
        Desk waits = Due.quick("X1 / G4 P1 / X2");
        waits.advance(4);
        Due.is("what takes ticks is done between", waits.state(0), 2);
    }

    private static void lesserPace() {
        Due.says("A BLOCK'S PACE is FASTEST for FAST ones, else the lesser of that and the SPEED; a JOINT'S is the lesser of theirs");
        joints("X10 / X20", 800, 0);
        joints("G1 F799 X10 / X20", 799, 0);
        joints("G1 F800 X10 / X20", 800, 0);
        joints("G1 F801 X10 / X20", 800, 0);
        joints("G1 F300 X10 / F301 X20 / F300 X30", 300, 300, 0);
        joints("G1 F301 X10 / F300 X20 / F301 X30 / X40", 300, 300, 301, 0);
        joints("X10 / G1 F100 X20 / G0 X30 / X40", 100, 100, 800, 0);
        joints("X500 / G1 F100 X400 / G28 X0 / G91 X1", 0, 100, 0, 0);
        Desk slow = Due.with("G1 F500 X10 / X20 / G0 X30 / X40");
        slow.set(3, 1);
        slow.start();
        for (int k = 0; k < 3; k++) {
            Due.is("FASTEST 1", slow.joint(k), 1);
        }
    }

    private static void bend(String program, int bend, int want) {
        Desk desk = Due.with(program);
        desk.set(3, 2000);
        desk.set(5, bend);
        desk.start();
        Due.is("BEND " + bend + ": joint of " + program, desk.joint(0), want);
    }

    private static void turns() {
        Due.says("0 if c is not above 0, else, if c is below m, not more than BEND c / (m - c), rounded down");
        // c 0, then below 0, then 1 with m 10.
        bend("X10 / Y10", 2000, 0);
        bend("X10 / X10 Y10 Z10", 2000, 0);
        bend("X10 Y10 / X20 Y0", 2000, 0);
        bend("X1 / X0 Y1000", 2000, 0);
        bend("X10 / X0", 2000, 0);
        bend("X1 / X2 Y10", 2000, 222);
        bend("X1 / X2 Y10", 9, 1);
        bend("X1 / X2 Y10", 8, 0);
        bend("X1 / X2 Y10", 0, 0);
        bend("X1 / X2 Y1000", 2000, 2);
        // c 1, m 2: just BEND.
        bend("X1 / X2 Y2", 0, 0);
        bend("X1 / X2 Y2", 1, 1);
        bend("X1 / X2 Y2", 1999, 1999);
        bend("X1 / X2 Y2", 2000, 2000);
        // c 15, m 25: rounded down.
        bend("X5 / X8 Y4", 100, 150);
        bend("X5 / X8 Y4", 101, 151);
        bend("X5 / X8 Y4", 1333, 1999);
        bend("X5 / X8 Y4", 1334, 2000);
        // c just m, and one below it: only that is bounded.
        bend("X10 / X20", 0, 2000);
        bend("X500 Y1 / X1000", 0, 2000);
        bend("X500 Y2 / X1000", 0, 0);
        bend("X500 Y2 / X1000", 1, 2000);
        bend("X500 Y500 Z500 / X1000 Y1000 Z1000", 0, 2000);
        // In a space of three: c 25, m 35.
        bend("X3 Y1 Z2 / X8 Y9 Z3", 100, 250);
        bend("X500 Y500 / X1000 Y1000 Z500", 20, 88);
    }

    private static void roots() {
        Due.says("m the root of the product of both sums of squares, rounded down");
        // 10 times 89 is 890, of which the root is 29.8; c is 23.
        bend("X3 Y1 / X8 Y9", 100, 383);
        bend("X3 Y1 / X8 Y9", 6, 23);
        // 2 times 1 is 2; c is 1, and so is m.
        bend("X1 / X2 Y1", 0, 2000);
        // 25 times 25 is just 625.
        bend("X5 / X8 Y4", 2, 3);
        // 1 times 3, 1 times 4, 1 times 5 (the root of 3 is 1.7).
        bend("X1 / X2 Y1 Z1", 0, 2000);
        bend("X1 / X2 Y2", 7, 7);
        bend("X1 / X2 Y2 Z1", 7, 7);
        // 1 times 9 with c 1, then 1 times 8 with c 2.
        bend("X1 / X2 Y2 Z2", 7, 3);
        bend("X1 / X3 Y2", 0, 2000);
    }

    private static void roundTurns() {
        Due.says("p being the DIRECTION of the first at its end, q that of the second at its start");
        // In line at the start and the end of a quarter, then against it, then across it.
        joints("G1 F500 X30 / G3 J10 X40 Y10 / G1 Y50", 500, 500, 0);
        joints("G1 F500 X30 / G3 J10 X40 Y10 / G1 Y0", 500, 0, 0);
        joints("G1 F500 X30 / G3 J10 X40 Y10 / G1 X50", 500, 0, 0);
        joints("Y40 / G1 F500 X30 / G2 J-10 X40 Y30 / G1 Y5", 0, 500, 500);
        joints("Y40 / G1 F500 X30 / G2 J-10 X40 Y30 / G1 Y50", 0, 500, 0);
        joints("X30 Y30 / G1 F500 X40 / G2 J10 X40 Y50", 500, 0, 0);
        // Once round the DIRECTION is the same at both ends.
        joints("G1 F500 X30 / G3 J10 / G1 X40", 500, 500, 0);
        // From one way round into another.
        joints("X30 / G3 F500 J10 X40 Y10 / J0 I-10 X20 Y10", 500, 500, 0);
        joints("X30 / G3 F500 J10 X40 Y10 / G2 I10 X50 Y20", 500, 500, 0);
        joints("X30 / G3 F500 J10 X40 Y10 / G2 I-10", 500, 0, 0);
        // In each plane: first axis to second.
        joints("Z30 / G18 G3 F500 I10 Z40 X10 / G1 X50", 500, 500, 0);
        joints("Y30 / G19 G3 F500 K10 Y40 Z10 / G1 Z50", 500, 500, 0);
        joints("Z30 / G18 G3 F500 I10 Z40 X10 / G1 Y50", 500, 0, 0);
        // With BEND 0 only what is just in line is gone at more than 0: at the start and the end of quarters.
        for (int plane = 0; plane < 3; plane++) {
            String first = AXES[PLANES[plane][0]];
            String second = AXES[PLANES[plane][1]];
            String off = CENTRES[PLANES[plane][1]];
            String g = "F500 G" + (17 + plane);
            bend(g + " G1 " + first + "30 / G3 " + off + "10 " + first + "40 " + second + "10", 0, 500);
            bend(g + " G1 " + first + "30 / G2 " + off + "10 " + first + "20 " + second + "10", 0, 0);
            bend(g + " G3 " + off + "10 " + first + "10 " + second + "10 / G1 " + second + "30", 0, 500);
            bend(g + " G3 " + off + "10 " + first + "10 " + second + "10 / G1 " + first + "30", 0, 0);
            String in = CENTRES[PLANES[plane][0]];
            bend(g + " G1 " + second + "30 / G2 " + in + "10 " + first + "10 " + second + "40", 0, 500);
            bend(g + " G2 " + in + "10 " + first + "10 " + second + "10 / G1 " + first + "30", 0, 500);
            bend(g + " G2 " + in + "10 " + first + "10 " + second + "10 / G1 " + second + "30", 0, 0);
        }
        // 15, 10 and 0, 5: c 50, m 90. Then -3, 4 and 0, 8: c 32, m 40. Then 0, 8 and -9, 3: c 24, m 75.
        joints("X15 Y10 / G3 F1000 I-5 X14 Y13 / G1 Y21 / X5 Y24", 500, 800, 188, 0);
    }

    // ---- HOLDS ----

    private static void holdsOnlyWhile() {
        Due.says("The machine HOLDS only while it RUNS or DWELLS: when it comes to WAIT, to STAND or is TRIPPED it does so no more");
        String[] programs = {"X1", "X1 M2", "X1 M0", "X1 / M0", "X1 / G4 P5", "X1 / G4 P5 M0"};
        int[] modes = {0, 0, 3, 3, 2, 2};
        for (int i = 0; i < programs.length; i++) {
            Desk desk = Due.quick(programs[i]);
            desk.advance(3);
            Due.yes("hold", desk.hold());
            Due.is("the end", desk.advance(1), 1);
            Due.is("what comes behind " + programs[i], desk.state(0), modes[i]);
            Due.is("HOLDS behind " + programs[i], desk.state(1), modes[i] == 2 ? 1 : 0);
        }
        Desk trips = Due.quick("X1 / Y9");
        trips.trip(0, 1);
        trips.advance(3);
        Due.yes("hold", trips.hold());
        Due.is("the switch", trips.advance(1), 1);
        Due.state("TRIPPED", trips, 4, 0, 0);
        Desk stops = Due.started("G4 P5");
        stops.hold();
        stops.stop();
        Due.is("STANDS by stop", stops.state(1), 0);
        stops.start();
        Due.is("and starts without", stops.state(1), 0);
        Desk waits = Due.quick("X1 M0 / X9");
        waits.advance(3);
        waits.hold();
        waits.advance(1);
        waits.resume();
        Due.paces("goes on without", waits, 200, 400);
    }

    // ---- TICKS ----

    private static void nothingTicks() {
        Due.says("A TICK: if it WAITS (PAUSE), is TRIPPED or STANDS, nothing");
        Desk waits = Due.started("M0 / X5");
        waits.advance(3000);
        Due.state("WAITS", waits, 3, 0, 0, 0, 0, 0, 0, 0, 3000);
        Due.at("WAITS", waits, 0, 0, 0);
        Desk trips = Due.with("X5 / X9");
        trips.trip(0, 2);
        trips.start();
        trips.advance(1000);
        Due.state("TRIPPED", trips, 4, 0, 0, 0, 2, 3, 0, 2, 1000);
        trips.advance(3000);
        Due.state("still TRIPPED", trips, 4, 0, 0, 0, 2, 3, 0, 2, 4000);
        Due.at("TRIPPED", trips, 2, 0, 0);
        Desk stands = Due.with("X5");
        stands.advance(3000);
        Due.state("STANDS", stands, 0, 0, 0, -1, 0, 0, 0, 0, 3000);
        Due.at("STANDS", stands, 0, 0, 0);
    }

    private static void dwellTicks() {
        Due.says("If it DWELLS, and does not HOLD, one tick of that is over (and it goes on, if that was the last, in the next tick)");
        Desk desk = Due.started("G4 P2 / X1");
        desk.hold();
        desk.advance(3000);
        Due.state("HOLDS", desk, 2, 1, 0, 0, 0, 0, 2);
        desk.resume();
        desk.advance(1);
        Due.state("one tick", desk, 2, 0, 0, 0, 0, 0, 1);
        desk.hold();
        desk.advance(1);
        Due.state("HOLDS before the last", desk, 2, 1, 0, 0, 0, 0, 1);
        desk.resume();
        desk.advance(1);
        Due.state("the last tick", desk, 1, 0, 0, 1, 0, 1, 0);
        desk.advance(1);
        Due.state("the next tick", desk, 1, 0, 20, 1, 0, 1, 0);
    }

    private static Desk with(String program, int fastest, int gain, int ahead) {
        Desk desk = Due.with(program);
        desk.set(3, fastest);
        desk.set(4, gain);
        desk.set(6, ahead);
        Due.yes("start of " + program, desk.start());
        return desk;
    }

    private static void gain() {
        Due.says("the pace s (0 at first) becomes the greatest u not above s + GAIN");
        Due.paces("GAIN 1", with("X100", 800, 1, 3), 1, 2, 3);
        Due.paces("GAIN 20", with("X100", 800, 20, 3), 20, 40, 60);
        Due.paces("GAIN 200", with("X100", 2000, 200, 3), 200, 400, 600, 800, 1000, 1200, 1400, 1600, 1800, 2000, 2000);
        Due.is("0 at first", with("X100", 800, 20, 3).state(2), 0);
    }

    private static void paceOfTheBlock() {
        Due.says("nor the PACE of the BLOCK at hand");
        Due.paces("F39", with("G1 F39 X100", 800, 20, 3), 20, 39, 39);
        Due.paces("F40", with("G1 F40 X100", 800, 20, 3), 20, 40, 40);
        Due.paces("F41", with("G1 F41 X100", 800, 20, 3), 20, 40, 41, 41);
        Due.paces("F20", with("G1 F20 X100", 800, 20, 3), 20, 20);
        Due.paces("F19", with("G1 F19 X100", 800, 20, 3), 19, 19);
        Due.paces("F1", with("G1 F1 X100", 800, 20, 3), 1, 1);
        Due.paces("FASTEST 39 with F40", with("G1 F40 X100", 39, 20, 3), 20, 39, 39);
        Due.paces("FASTEST 39, FAST", with("X100", 39, 20, 3), 20, 39, 39);
        Due.paces("FASTEST 1", with("X100", 1, 200, 3), 1, 1);
        // Into a BLOCK with another PACE: at 1010 the second is at hand, and its own PACE counts.
        Desk desk = with("G1 F90 X1 / F120 X90", 800, 20, 3);
        Due.is("12 ticks", desk.advance(12), 0);
        Due.paces("over the JOINT at the PACE of the first", desk, 90);
        Due.is("the second is at hand", desk.state(3), 1);
        Due.paces("up to the PACE of the second", desk, 110, 120, 120);
    }

    private static void holdPaces() {
        Due.says("(if it HOLDS, not above s - GAIN, or 0)");
        int[][] cases = {{61, 41, 21, 1, 0}, {60, 40, 20, 0, 0}, {59, 39, 19, 0, 0}, {20, 0, 0, 0, 0}, {19, 0, 0, 0, 0}, {21, 1, 0, 0, 0}};
        for (int[] c : cases) {
            Desk desk = with("G1 F" + c[0] + " X100", 800, 20, 3);
            desk.advance(4);
            Due.is("the pace before", desk.state(2), c[0]);
            Due.yes("hold", desk.hold());
            Due.is("the pace right behind hold", desk.state(2), c[0]);
            Due.paces("held from " + c[0], desk, c[1], c[2], c[3], c[4]);
            Due.is("it still RUNS", desk.state(0), 1);
        }
        Desk first = with("X100", 800, 20, 3);
        Due.yes("hold before the first tick", first.hold());
        Due.is("nothing is gone", first.advance(3000), 0);
        Due.state("held at 0", first, 1, 1, 0, 0, 0, 100);
        first.resume();
        Due.paces("up from 0", first, 20, 40);
    }

    private static void lastEnd() {
        Due.says("u + D is not above r: r is how far the end is, w .. 0 for the last of these ends");
        // At r 3000, 1000 + 800 + .. + 200 is just 3000.
        Due.paces("just r", with("X5", 2000, 200, 3), 200, 400, 600, 800, 1000, 800, 600, 400, 0);
        // At r 2001, 801 + 601 + 401 + 201 + 1 is 2005, 800 + .. 2000; a length of 1 is left at the end.
        Desk odd = with("G1 F999 X5", 2000, 200, 3);
        Due.paces("r and one more", odd, 200, 400, 600, 800, 999, 800, 600, 400, 200);
        Due.state("1 is left", odd, 1, 0, 200, 0, 4, 1, 0, 4, 9);
        Due.is("the last tick", odd.advance(1), 1);
        Due.state("the end", odd, 0, 0, 0, -1, 0, 0, 0, 5, 10);
        // 801 + 601 + 401 + 201 + 1 is one more than r 2004; 601 + 401 + 201 + 1 is just r 1204.
        for (int ahead = 1; ahead <= 3; ahead++) {
            Due.paces("AHEAD " + ahead, with("G1 F996 X5", 2000, 200, ahead), 200, 400, 600, 800, 996, 800, 601, 401, 201, 0);
        }
        // At r 400, 300 + 100; at r 100, 100.
        Due.paces("one STEP", with("X1", 2000, 200, 3), 200, 400, 300, 0);
        Due.paces("one STEP and GAIN 20", with("G1 F60 X1", 800, 20, 3), 20, 40, 60, 60, 60);
    }

    private static void jointPaces() {
        Due.says("u is not above w, or u + D is not above r; D u - GAIN, u - 2 GAIN, .. together, as long as these are above w");
        // Down to 100 by 50: at r 650 it is 250 + 200 + 150, for 100 is not above w; 251 would be 251 + 201 + 151 + 101.
        Desk down = with("G1 F300 X2 / F100 X9", 800, 50, 3);
        Due.paces("down to w", down, 50, 100, 150, 200, 250, 300, 300, 250, 200);
        // 200 left: 150 with nothing to come that is above w; then 50 left, and w is 100.
        Due.paces("down to w", down, 150, 100);
        Due.state("over the JOINT", down, 1, 0, 100, 1, 0, 7);
        Due.paces("at w", down, 100);
        // A pace not above w goes over the end however near it is: 990 gone of 1000, at 90.
        Desk at = with("G1 F90 X1 / X9", 800, 20, 3);
        Due.is("12 ticks", at.advance(12), 0);
        Due.state("80 left", at, 1, 0, 90, 0, 0, 1);
        Due.paces("w is 90", at, 90);
        Due.state("10 into the next", at, 1, 0, 90, 1, 0, 8);
        // At the PACE of a JOINT that is 0 it comes to the end just as before a stand.
        Due.paces("w is 0", with("X1 / Y9", 2000, 200, 3), 200, 400, 300, 100, 300);
    }

    private static void jointsAhead() {
        Due.says("at each of the next AHEAD ends of BLOCKS, that of the one at hand the first");
        String ones = "X1 / X2 / X3 / X4 / X5 / X6 / X7 / X8 / X9 / X10 / X11 / X12";
        // The AHEAD-th end counts as one to stand at: 1000 times AHEAD from the start.
        Due.paces("AHEAD 1", with(ones, 2000, 200, 1), 200, 400, 300, 100, 300, 433, 233, 34);
        Due.paces("AHEAD 2", with(ones, 2000, 200, 2), 200, 400, 600, 750, 550);
        // The third end is 3000 far, and 1000 + 800 + .. + 200 is just 3000; the fourth is 4000 far.
        Due.paces("AHEAD 3", with(ones, 2000, 200, 3), 200, 400, 600, 800, 1000, 1000);
        Due.paces("AHEAD 4", with(ones, 2000, 200, 4), 200, 400, 600, 800, 1000, 1166);
        Due.paces("AHEAD 6", with(ones, 2000, 200, 6), 200, 400, 600, 800, 1000, 1200, 1400, 1371);
        // The slow BLOCK is the third: with AHEAD 2 its JOINT is the second end, which counts 0 there.
        String slow = "G1 F1000 X2 / X4 / F100 X9";
        Desk seen = with(slow, 2000, 200, 3);
        Desk near = with(slow, 2000, 200, 1);
        // From 2000 on the end before the slow BLOCK is 2000, 1200, 600 and 200 far, and counts 100.
        Due.paces("AHEAD 3", seen, 200, 400, 600, 800, 800, 600, 400, 200, 100);
        // The same, where the second BLOCK is short, so that its end is the second of those ahead.
        Due.paces("AHEAD 3", with("G1 F1000 X3 / X4 / F100 X9", 2000, 200, 3), 200, 400, 600, 800, 800, 600, 400, 200, 100);
        // At r 800, 466 + 266 + 66 is 798.
        Due.paces("AHEAD 1", near, 200, 400, 600, 466);
    }

    private static void fewerEnds() {
        Due.says("as far as JOINTS go");
        // With every AHEAD from 2 on a JOINT and the end behind it are all there is: r 800, 334, 67.
        for (int ahead = 2; ahead <= 6; ahead++) {
            Due.paces("two BLOCKS, AHEAD " + ahead, with("X1 / X2", 2000, 200, ahead), 200, 400, 600, 466, 267, 0);
            Due.paces("a PAUSE between, AHEAD " + ahead, with("X1 M0 / X9", 2000, 200, ahead), 200, 400, 300, 0);
            Due.paces("a DWELL between, AHEAD " + ahead, with("X1 / G4 P1 / X9", 2000, 200, ahead), 200, 400, 300, 0);
        }
    }

    private static void intoTheNext() {
        Due.says("Then the tool goes on by u, also into the next BLOCK over a JOINT (which is at hand as soon as the end is reached)");
        // 20 + 40 + 60 + 80 and 8 times 100 are just 1000.
        Desk just = with("G1 F100 X1 / X9", 800, 20, 3);
        Due.is("900 gone", just.advance(11), 0);
        Due.state("900 gone", just, 1, 0, 100, 0, 0, 1);
        Due.is("1000 gone", just.advance(1), 1);
        Due.state("just at the end the next is at hand", just, 1, 0, 100, 1, 0, 8);
        Due.is("the joint of the next", just.joint(0), 0);
        // Two ends in one tick: 1400, 1371 and so on over BLOCKS of a STEP.
        Desk ones = with("X1 / X2 / X3 / X4 / X5 / X6 / X7 / X8 / X9 / X10 / X11 / X12", 2000, 200, 6);
        Due.is("4200 gone", ones.advance(6), 4);
        Due.state("4200 gone", ones, 1, 0, 1200, 4, 0, 1);
        Due.is("5600 gone", ones.advance(1), 1);
        Due.is("6971 gone", ones.advance(1), 1);
        Due.state("6971 gone", ones, 1, 0, 1371, 6, 0, 1);
        // 5029 to the last end: 1318 + 1118 + .. + 118 is 5026.
        Due.is("8289 gone, over two ends", ones.advance(1), 2);
        Due.state("8289 gone", ones, 1, 0, 1318, 8, 0, 1);
    }

    private static void endOfABlock() {
        Due.says("at an end without JOINT s is 0 then, and what comes next begins");
        String[] programs = {"X1", "X1 M0", "X1 / G4 P3", "X1 / M0 / X2"};
        int[][] wants = {{0, 0, 0, -1, 0, 0, 0}, {3, 0, 0, 0, 0, 0, 0}, {2, 0, 0, 1, 0, 0, 3}, {3, 0, 0, 1, 0, 0, 0}};
        for (int i = 0; i < programs.length; i++) {
            Desk desk = Due.quick(programs[i]);
            desk.advance(3);
            Due.state("before the end of " + programs[i], desk, 1, 0, 300, 0, 0, 1, 0);
            desk.advance(1);
            Due.state("at the end of " + programs[i], desk, wants[i]);
        }
        // A JOINT of PACE 0 is still a JOINT.
        Desk corner = Due.quick("X1 / Y1");
        corner.advance(4);
        Due.state("at a corner", corner, 1, 0, 100, 1, 0, 1);
    }

    private static void stepLength() {
        Due.says("Behind k times 1000 from the beginning of a BLOCK its k-th STEP is done");
        Desk slow = with("X3", 1, 200, 3);
        Due.is("999", slow.advance(999), 0);
        Due.state("999", slow, 1, 0, 1, 0, 0, 3, 0, 0, 999);
        Due.is("1000", slow.advance(1), 1);
        Due.state("1000", slow, 1, 0, 1, 0, 1, 2, 0, 1, 1000);
        Due.is("1999", slow.advance(999), 0);
        Due.is("2000", slow.advance(1), 1);
        Due.is("2999", slow.advance(999), 0);
        Due.is("3000", slow.advance(1), 1);
        Due.is("it STANDS", slow.state(0), 0);
        // The lengths count from the beginning of each BLOCK: 10 of the next are gone at 1010.
        Desk next = with("G1 F90 X1 / X9", 800, 20, 3);
        Due.is("1010", next.advance(13), 1);
        Due.is("910 of the next", next.advance(10), 0);
        Due.is("1000 of the next", next.advance(1), 1);
        Due.state("1000 of the next", next, 1, 0, 90, 1, 1, 7);
        Desk two = with("X100", 2000, 200, 3);
        Due.is("11000", two.advance(10), 11);
        Due.is("two STEPS", two.advance(1), 2);
    }
}
