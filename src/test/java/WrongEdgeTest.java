/** The six ways a LINE is WRONG: each on both sides of its edge, and which comes before which. */
public final class WrongEdgeTest {
    private static final String AXES = "XYZ", CENTRES = "IJK";
    // First, second and third axis of the planes 17, 18, 19.
    private static final int[][] PLANES = {{0, 1, 2}, {2, 0, 1}, {1, 2, 0}};

    public static void main(String[] args) {
        order();
        firstLine();
        withItsOwnWords();
        unknownWords();
        speeds();
        dwells();
        letterTwice();
        groupTwice();
        dwellOrP();
        centresAlone();
        axesWithOnce();
        furtherWithOnce();
        machineWithRound();
        speedZero();
        noCentre();
        thirdAxis();
        centreIsTheStart();
        farCentre();
        endAsFar();
        outsideByAStraightWay();
        outsideByARoundWay();
        Due.end("WrongEdgeTest");
    }

    private static void all(int want, String... programs) {
        for (String program : programs) {
            Due.check(program, want);
        }
    }

    /** A way round in a plane from 400, 400, 400, with words like "I5 J0 X10" of plane 17 for first, second, third. */
    private static void turn(int want, String words) {
        for (int plane = 0; plane < 3; plane++) {
            for (int motion = 2; motion <= 3; motion++) {
                StringBuilder turned = new StringBuilder();
                for (String word : words.split(" ")) {
                    int axis = AXES.indexOf(word.charAt(0));
                    int centre = CENTRES.indexOf(word.charAt(0));
                    char letter = axis >= 0 ? AXES.charAt(PLANES[plane][axis])
                        : centre >= 0 ? CENTRES.charAt(PLANES[plane][centre]) : word.charAt(0);
                    turned.append(' ').append(letter).append(word.substring(1));
                }
                Due.check("X400 Y400 Z400 / F9 G" + (17 + plane) + " G" + motion + turned, want == 0 ? 0 : 10 + want);
            }
        }
    }

    // ---- the order ----

    private static void order() {
        Due.says("A LINE is WRONG, by the first of these that is so");
        // 1 before each other one, wherever its word stands.
        all(1, "X1 X1 G5", "G5 X1 X1", "F0 F0", "G0 G1 M1", "P-1 P-1", "F5 F1001", "G1 G1 G1 G5");
        all(1, "G4 M1", "P-1", "P1001", "I3 G93", "G28 M3", "G53 G91 X1 F0", "G2 G53 F1001 X1", "G4 P-1 X3");
        all(1, "G1 X4 G5", "G1 X4 M1", "G1 X4 F0", "G1 X4 F1001", "G2 F-1 I5");
        all(1, "G2 F9 X5 M1", "G2 F1001 X5", "G2 F9 I0 G5", "G2 F9 I301 M3");
        all(1, "X-1 M1", "X1001 F1001", "G5 Y-1", "G2 F9 I5 M1");
        // 2 before 3 to 6.
        all(2, "P1 P1", "I1 I1", "G4 G28", "G4 G4", "X1 X1 G4", "G53 G28", "G53 X1 G91 G90", "G2 G53 X1 F9 F9");
        all(2, "G1 X4 X4", "G1 X4 G0", "G2 I5 I5", "G1 Z4 M0 M0");
        all(2, "G2 F9 X5 X5", "G2 F9 I0 J0 J0", "G2 G3 F9 I301");
        all(2, "X-1 X-1", "X1001 X1001", "Y-1 M0 M2", "X1001 G0 G1");
        // 3 before 4 to 6.
        all(3, "G1 X4 P3", "G1 X3 I1", "G1 G53 G91 X1", "G2 G53 X1", "G2 X1 P0");
        all(3, "G2 F9 X5 P3", "G2 F9 G53 X5", "G2 F9 I0 P1");
        all(3, "X-1 P3", "G53 G91 X-1", "X1001 I1", "G1 F9 X-1 K0");
        // 4 before 5 and 6, 5 before 6.
        all(4, "G2 X5", "G2 K5", "G2 I0", "G3 I301", "G2 I5 X1");
        all(4, "G1 X-1", "G1 X1001", "G1 G53 Y-1", "G2 I5");
        all(5, "G2 F9 X-1", "G2 F9 I-5 X-1", "G2 F9 X1001", "G2 F9 I-301", "G2 F9 I-5 Z-1", "G2 F9 I-5 K0");
        all(6, "G2 F9 I-5", "X1001", "G2 F9 I-5 X-10");
    }

    private static void firstLine() {
        Due.says("10 times the first such LINE, and why");
        String[] wrong = {"G5", "X1 X1", "P1", "G1 X1", "G2 F9 X1", "X1001"};
        for (int one = 0; one < 6; one++) {
            for (int other = 0; other < 6; other++) {
                Due.check(wrong[one] + " / " + wrong[other], one + 1);
                Due.check("X1 / " + wrong[one] + " / X2 / " + wrong[other], 11 + one);
            }
        }
        StringBuilder before = new StringBuilder();
        for (int line = 0; line < 30; line++) {
            for (int one = 0; one < 6; one++) {
                Due.check(before + wrong[one], 10 * line + one + 1);
            }
            before.append("X").append(line).append(" / ");
        }
    }

    private static void withItsOwnWords() {
        Due.says("(all by what is in force with its own words)");
        all(0, "G1 / X1 G0", "G1 / X1 F1", "G91 / G28 X0 G90", "G91 / G53 X0 G90", "G2 / G53 X0 G0");
        all(13, "F9 / X1 I1 G1", "X1 / G28 X0 G91", "X1 / G53 X0 G91", "F9 / G53 X0 G2", "G2 F9 / X1 I1 G0");
        all(14, "X1 / X2 G1", "G1 / X1 G90");
        all(15, "X9 Y9 Z9 / K4 F9 G2", "X9 Y9 Z9 / I4 F9 G2 G19", "X9 Y9 Z9 / F9 I61 G20 G2");
        all(0, "X9 Y9 Z9 / K4 F9 G2 G18", "X400 Y400 / F9 I60 G20 G2", "X9 Y9 Z9 / G20 F9 / I4 G21 G2");
        all(16, "X9 / X200 G20 G91", "X1000 / X1 G91");
        all(36, "X9 / G55 G92 X0 / G54 / X992 G55");
        all(0, "X9 / G55 G92 X0 / G54 / X991 G55", "X9 / G55 G92 X0 / X992 G54", "G20 / X1000 G21", "G91 X9 / X1000 G90");
    }

    // ---- 1 ----

    private static void unknownWords() {
        Due.says("1 A G or M is none of these");
        all(1, "G-1", "G5", "G16", "G22", "G27", "G29", "G52", "G56", "G89", "G93", "G3000", "G-3000");
        all(1, "M-1", "M1", "M3", "M3000", "M-3000");
        all(1, "X1 G5", "X1 M1", "G1 F9 X1 G16", "G4 P1 M1");
        all(0, "G0", "G1", "G2", "G3", "G17", "G18", "G19", "G20", "G21", "G54", "G55", "G90", "G91", "M0", "M2");
        all(0, "G4 P1", "G28 X0", "G53 X0", "G92 X0");
    }

    private static void speeds() {
        Due.says("1 .. F not 1..1000");
        all(1, "F0", "F-1", "F-3000", "F1001", "F3000", "G1 F0 X1", "G1 F1001 X1", "X1 F0", "G4 P1 F0");
        all(0, "F1", "F1000", "G1 F1 X1", "G1 F1000 X1");
        Desk least = Due.started("G1 F1 X1 / X2");
        Due.is("the SPEED 1", least.joint(0), 1);
        Desk most = Due.with("G1 F1000 X1 / X2");
        most.set(3, 2000);
        most.start();
        Due.is("the SPEED 1000", most.joint(0), 1000);
    }

    private static void dwells() {
        Due.says("1 .. or P not 0..1000");
        all(1, "G4 P-1", "G4 P-3000", "G4 P1001", "G4 P3000", "P-1", "P1001", "X1 P-1");
        all(0, "G4 P0", "G4 P1", "G4 P1000");
        Due.is("DWELL of 1000", Due.started("G4 P1000").state(6), 1000);
    }

    // ---- 2 ----

    private static void letterTwice() {
        Due.says("2 A LETTER other than G is there twice");
        all(2, "M0 M0", "M0 M2", "X0 X0", "X1 X2", "Y0 Y0", "Z0 Z0", "F1 F1", "F1 F2", "G4 P1 P1", "G4 P1 P2");
        all(2, "G2 F9 I5 I5", "G2 F9 J5 J5", "G2 F9 K5 K5", "X1 Y1 Z1 F1 M0 G0 G90 X1", "X1 X1 X1");
        all(0, "X0 Y0 Z0 F1 M0", "X5 Y5 / G2 F9 I5 J0", "X5 Y5 / G2 F9 I5 X5 Y5 / I5 X5 Y5", "X1 / X1");
    }

    private static void groupTwice() {
        Due.says("2 .. or two G are of one GROUP");
        all(2, "G0 G0", "G0 G1", "G1 G0", "G2 G3", "G0 G3", "G17 G17", "G17 G18", "G18 G19", "G17 G19");
        all(2, "G20 G20", "G20 G21", "G90 G90", "G90 G91", "G54 G54", "G54 G55");
        all(2, "G4 G4 P1", "G4 G28 P1", "G28 G53 X1", "G53 G92 X1", "G4 G92 P1", "G92 G92 X1");
        all(2, "G0 G17 G21 G90 G54 G53 X1 G1", "G1 G90 X1 G91");
        all(0, "G0 G17 G21 G90 G54 G53 X1", "G1 G19 G20 G91 G55 G4 P1 F9", "G0 / G1 / G2 / G3", "G90 / G91");
    }

    // ---- 3 ----

    private static void dwellOrP() {
        Due.says("3 There is DWELL or P, but not both");
        all(3, "G4", "P0", "P1", "P1000", "X1 P0", "G28 X0 P1", "G92 X0 P1", "G53 X0 P1", "M0 P1", "G4 M0", "G4 F9");
        all(0, "G4 P0", "P0 G4", "G4 P1 M0", "P1 G4 F9 M2", "X1");
    }

    private static void centresAlone() {
        Due.says("3 .. an I, J or K, and ROUND is not in force, or a G of ONCE there");
        for (int axis = 0; axis < 3; axis++) {
            String centre = CENTRES.charAt(axis) + "5";
            String zero = CENTRES.charAt(axis) + "0";
            all(3, centre, zero, "G0 X1 " + centre, "G1 F9 " + centre, "G1 F9 X1 " + zero, "G0 G53 X1 " + centre);
            all(3, "G1 F9 G4 P1 " + centre, "G0 G28 X1 " + centre, "G0 G92 X1 " + zero);
            all(3, "G2 F9 G28 X1 " + centre, "G3 F9 G92 X1 " + zero, "G2 F9 G4 P1 " + centre, "G2 F9 G53 X1 " + centre);
            all(13, "G2 F9 / G1 " + centre, "G3 F9 / G0 X1 " + zero);
        }
        all(0, "X9 Y9 Z9 / G2 F9 I5", "X9 Y9 Z9 / G3 F9 J5", "X9 Y9 Z9 / G18 G2 F9 K5", "X9 Y9 / G2 F9 / I5 / J5");
    }

    private static void axesWithOnce() {
        Due.says("3 .. an X, Y or Z with DWELL, or none with HOME, MACHINE or SHIFT");
        for (int axis = 0; axis < 3; axis++) {
            String named = AXES.charAt(axis) + "0";
            all(3, "G4 P1 " + named, "G4 P0 " + named);
            all(0, "G28 " + named, "G53 " + named, "G92 " + named);
        }
        all(3, "G28", "G53", "G92", "G28 M0", "G53 F9", "G92 G90", "G1 F9 G53");
        all(13, "X1 / G28", "X1 / G53", "X1 / G92");
        all(0, "G4 P1");
    }

    private static void furtherWithOnce() {
        Due.says("3 .. HOME or MACHINE with 91");
        all(3, "G28 X0 G91", "G91 G28 Y0", "G53 X0 G91", "G91 G53 Z0");
        all(13, "G91 / G28 X0", "G91 / G53 X0");
        all(0, "G28 X0 G90", "G53 X0 G90", "G91 / G90 G28 X0", "G91 / G90 / G53 X0", "G91 G92 X0", "G91 G4 P1");
    }

    private static void machineWithRound() {
        Due.says("3 .. MACHINE with ROUND");
        all(3, "G2 F9 G53 X0", "G3 F9 G53 X0", "G53 Y1 F9 G2");
        all(13, "G2 F9 / G53 X0", "G3 F9 / G53 Z0");
        all(0, "G0 G53 X1", "G1 F9 G53 X1", "G2 F9 / G1 G53 X1", "G2 / G28 X1", "G3 / G92 X1");
    }

    // ---- 4 ----

    private static void speedZero() {
        Due.says("4 It MOVES, not FAST, and the SPEED is 0");
        all(4, "G1 X0", "G1 Y5", "G1 Z5", "G1 G53 X5", "G2 I5", "G3 J5", "G2 X0");
        all(14, "G1 / X5", "G2 / I5", "X5 / G1 X5");
        all(0, "G0 X5", "X5", "G53 X5", "G1 X5 F1", "F1 / G1 X5", "G1 / G0 X5", "G1", "G1 G28 X0", "G1 G92 X5");
        all(0, "G1 G4 P5", "G2", "G3 M0", "G1 F1000 / X1 / G2 / G1 X5");
    }

    // ---- 5 ----

    private static void noCentre() {
        Due.says("5 It MOVES by ROUND, and has no I, J or K of the plane's axes (I, J, K are of X, Y, Z)");
        for (String words : new String[] {"X400", "Y400", "X405 Y405", "K5", "K0", "X400 K5", "Z400"}) {
            turn(5, words);
        }
        for (String words : new String[] {"I5", "J5", "I5 J0", "I0 J5", "I-5", "J-5", "I3 J-4"}) {
            turn(0, words);
        }
        // A LINE with ROUND in force that does not MOVE needs none.
        all(0, "G2 F9", "G3 F9 / G28 X0", "G2 F9 / G92 X0", "G2 F9 / G4 P1", "G2 F9 / G0 X5");
    }

    private static void thirdAxis() {
        Due.says("5 .. or has a word of the third axis (X, Y, Z, or I, J, K)");
        for (String words : new String[] {"I5 Z400", "J5 Z400", "I5 K0", "J5 K0", "I5 K5", "I5 X410 Z400", "I3 J4 K0 Z400"}) {
            turn(5, words);
        }
        turn(0, "I5 X410");
        turn(0, "J5 Y410");
        turn(5, "G91 I5 X10 Z0");
        turn(0, "G91 I5 X10 Y0");
    }

    private static void centreIsTheStart() {
        Due.says("5 .. or the centre is the start");
        for (String words : new String[] {"I0", "J0", "I0 J0", "I0 X400", "J0 X400 Y400", "G20 I0", "I0 J0 X405"}) {
            turn(5, words);
        }
        turn(0, "I1");
        turn(0, "J-1");
        turn(0, "I0 J1");
    }

    private static void farCentre() {
        Due.says("5 .. or more than 300 STEPS from it");
        for (String words : new String[] {"I300", "J300", "I180 J240", "I240 J180", "I84 J288", "I288 J84", "G20 I60", "G20 I36 J48"}) {
            turn(0, words);
        }
        // 300 * 300 + 1 is just more.
        for (String words : new String[] {"I301", "J301", "I-301", "J-301", "I300 J1", "I1 J300", "I-1 J-300", "I180 J241",
            "I181 J240", "I213 J213", "I3000", "J-3000", "I3000 J3000", "G20 I61", "G20 I60 J1", "G20 I3000 J3000"}) {
            turn(5, words);
        }
        turn(0, "I212 J212");
        // The way back to the start from as far, the other way.
        Due.check("X600 Y600 / F9 G2 I-300", 0);
        Due.check("X600 Y600 / F9 G3 J-300", 0);
        Due.check("X600 Y600 / F9 G3 J-300 I-1", 15);
        // An end that is as far from a centre that is too far.
        turn(5, "I301 X1002");
        turn(5, "G91 I301 X301 Y301");
    }

    private static void endAsFar() {
        Due.says("5 .. or the end is not just as far from the centre as the start");
        for (String words : new String[] {"I5 X409", "I5 X411", "I5 Y401", "I5 Y399", "I5 X410 Y401", "I5 X401", "J5 Y409",
            "J5 Y411", "J5 X401", "I300 Y401", "G91 I300 X300 Y299", "I5 X1000", "I5 Y-3000", "G20 G91 I1 X3000 Y-3000"}) {
            turn(5, words);
        }
        for (String words : new String[] {"I5 X400", "I5 Y400", "I5 X410", "I5 X410 Y400", "I5 X405 Y405", "I5 X405 Y395",
            "I5 X401 Y403", "I5 X402 Y396", "I5 X409 Y397", "J5 Y410", "J5 X400", "G91 I5 X10", "G91 I5 X0", "G91 I300 X300 Y300"}) {
            turn(0, words);
        }
    }

    // ---- 6 ----

    private static void outsideByAStraightWay() {
        Due.says("6 The tool comes outside 0 .. LIMIT at a STEP");
        for (int axis = 0; axis < 3; axis++) {
            String name = AXES.substring(axis, axis + 1);
            all(0, name + "0", name + "1000", "G1 F9 " + name + "1000", name + "1000 / G91 " + name + "-1000");
            all(6, name + "-1", name + "1001", "G1 F9 " + name + "1001", "G53 " + name + "-1", name + "3000", name + "-3000");
            all(16, name + "1000 / G91 " + name + "1", name + "1 / G91 " + name + "-2", name + "9 / " + name + "1001");
            Desk desk = new Desk();
            desk.set(axis, 9);
            Due.check("LIMIT 9", desk, name + "9", 0);
            Due.check("LIMIT 9", desk, name + "10", 6);
            Due.check("LIMIT 9", desk, name + "9 / G28 " + name + "10", 0);
            Due.check("LIMIT 9", desk, "G92 " + name + "10", 0);
        }
        all(0, "X1000 Y1000 Z1000", "X1000 Y1000 Z1000 / X0 Y0 Z0");
        all(6, "X1000 Y1000 Z1001", "X1000 Y-1 Z1000", "X1001 Y1000 Z1000");
    }

    private static void outsideByARoundWay() {
        Due.says("6 The tool comes outside 0 .. LIMIT at a STEP (not only at its end)");
        // A circle of radius 5 is 10 across: it touches 0, or the LIMIT, on each side, or leaves by one.
        for (int plane = 0; plane < 3; plane++) {
            char first = AXES.charAt(PLANES[plane][0]);
            char second = AXES.charAt(PLANES[plane][1]);
            String g = " / F9 G" + (17 + plane) + " G";
            String right = " " + CENTRES.charAt(PLANES[plane][0]) + "5";
            String left = " " + CENTRES.charAt(PLANES[plane][0]) + "-5";
            String up = " " + CENTRES.charAt(PLANES[plane][1]) + "5";
            for (int motion = 2; motion <= 3; motion++) {
                Due.check(first + "500 " + second + "5" + g + motion + right, 0);
                Due.check(first + "500 " + second + "4" + g + motion + right, 16);
                Due.check(first + "500 " + second + "995" + g + motion + right, 0);
                Due.check(first + "500 " + second + "996" + g + motion + right, 16);
                Due.check(first + "5 " + second + "500" + g + motion + up, 0);
                Due.check(first + "4 " + second + "500" + g + motion + up, 16);
                Due.check(first + "995 " + second + "500" + g + motion + up, 0);
                Due.check(first + "996 " + second + "500" + g + motion + up, 16);
                Due.check(first + "10 " + second + "500" + g + motion + left, 0);
                Due.check(first + "9 " + second + "500" + g + motion + left, 16);
                Due.check(first + "990 " + second + "500" + g + motion + right, 0);
                Due.check(first + "991 " + second + "500" + g + motion + right, 16);
                Desk limited = new Desk();
                limited.set(PLANES[plane][0], 30);
                limited.set(PLANES[plane][1], 40);
                Due.check("LIMITS 30, 40", limited, first + "20 " + second + "35" + g + motion + right, 0);
                Due.check("LIMITS 30, 40", limited, first + "21 " + second + "35" + g + motion + right, 16);
                Due.check("LIMITS 30, 40", limited, first + "20 " + second + "36" + g + motion + right, 16);
            }
            // Half round on the side that stays inside, and on the other.
            String half = " " + first + "510" + right;
            Due.check(first + "500 " + second + "0" + g + 2 + half, 0);
            Due.check(first + "500 " + second + "0" + g + 3 + half, 16);
            Due.check(first + "500 " + second + "1000" + g + 2 + half, 16);
            Due.check(first + "500 " + second + "1000" + g + 3 + half, 0);
        }
    }
}
