/** The edges that the Terms name for POSITIONS, PROGRAMS, WORDS, and what LINES put in force and do. */
public final class TermsEdgeTest {
    private static final int[][] GROUPS = {{0, 1, 2, 3}, {17, 18, 19}, {20, 21}, {90, 91}, {54, 55}, {4, 28, 53, 92}};
    private static final String AXES = "XYZ", CENTRES = "IJK";

    public static void main(String[] args) {
        calls();
        positions();
        lines();
        words();
        letters();
        groups();
        mWords();
        beginning();
        fromItsOwnLineOn();
        onceAlone();
        scale();
        moves();
        dwell();
        home();
        shift();
        goals();
        machine();
        centre();
        pauseAndEnd();
        lastLine();
        behindEnd();
        Due.end("TermsEdgeTest");
    }

    private static void calls() {
        Due.says("An object is used for at most 512 calls after it has been made");
        Desk ticks = new Desk();
        for (int i = 1; i < Desk.MOST_CALLS; i++) {
            Due.is("advance(3000)", ticks.advance(3000), 0);
        }
        Due.is("the 512th call", ticks.state(8), 3000 * 511);
        Desk steps = new Desk();
        steps.set(3, 2000);
        steps.set(4, 200);
        int due = 0;
        for (int i = 0; i < 100; i++) {
            steps.clear();
            steps.word(true, 2, i % 2 == 0 ? 1000 : 0);
            Due.yes("start", steps.start());
            due += 1000;
            Due.is("a long way", steps.advance(3000), 1000);
        }
        Due.is("STEPS of a hundred long ways", steps.state(7), due);
    }

    private static void positions() {
        Due.says("A POSITION has X, Y, Z (axes 0, 1, 2), whole numbers of STEPS from 0 to the axis's LIMIT");
        for (int axis = 0; axis < 3; axis++) {
            String name = AXES.substring(axis, axis + 1);
            Due.check(name + "0", 0);
            Due.check(name + "-1", 6);
            Due.check(name + "1000", 0);
            Due.check(name + "1001", 6);
            int[] limits = {1, 2, 500, 999, 1000};
            for (int limit : limits) {
                Desk desk = new Desk();
                desk.set(axis, limit);
                Due.check("LIMIT " + limit, desk, name + limit, 0);
                Due.check("LIMIT " + limit, desk, name + (limit + 1), 6);
                String other = AXES.substring((axis + 1) % 3, (axis + 1) % 3 + 1);
                Due.check("LIMIT of another axis", desk, other + 1000, 0);
            }
            Desk there = Due.quick(name + "1000");
            Due.is("to the LIMIT", there.advance(3000), 1000);
            Due.is("at the LIMIT", there.at(axis), 1000);
            Due.load(there, name + "0");
            there.start();
            Due.is("to 0", there.advance(3000), 1000);
            Due.is("at 0", there.at(axis), 0);
        }
        Due.says("the tool is at 0 of each at first");
        Due.at("new", new Desk(), 0, 0, 0);
    }

    private static void lines() {
        Due.says("A PROGRAM has up to 30 LINES, 0 the first");
        Desk desk = new Desk();
        for (int i = 0; i < 29; i++) {
            Due.is("LINE " + i, desk.word(true, 2, i), 1);
        }
        Due.is("LINE 29", desk.word(true, 1, 0), 1);
        Due.is("LINE 30", desk.word(true, 1, 0), MillDesk.FULL);
        Due.is("check of 30 LINES", desk.check(), 0);
        Due.is("behind LINE 0", desk.after(0, 0), 0);
        Due.is("behind LINE 28", desk.after(28, 0), 28);
        Due.is("behind LINE 29", desk.after(29, 0), 28);
        Due.is("behind LINE 30", desk.after(30, 0), MillDesk.BAD);
        Due.yes("start", desk.start());
        Due.is("LINE 0 has no way, LINE 1 is at hand", desk.state(3), 1);
        desk.advance(3000);
        Due.is("the PAUSE of LINE 29", desk.state(0), 3);
        Due.is("the LINE of the PAUSE", desk.state(3), 29);
        Due.is("the way up to it", desk.at(0), 28);
        Desk wrong = new Desk();
        for (int i = 0; i < 30; i++) {
            wrong.word(true, 2, i < 29 ? i : 1001);
        }
        Due.is("LINE 29 is WRONG", wrong.check(), 296);
        Due.check("X1001 / X1001", 6);
        Desk round = Due.with("X20 Y20");
        for (int i = 1; i < 29; i++) {
            round.word(true, 8, 9);
        }
        round.word(true, 0, 3);
        round.word(false, 8, 500);
        round.word(false, 6, -5);
        Due.is("check of a way round in LINE 29", round.check(), 0);
        Due.yes("start", round.start());
        Due.is("a way round in LINE 29", round.advance(3000), 20 + 28);
        Due.at("a way round in LINE 29", round, 20, 20, 0);
        Twins.refused("a LINE too many", d -> {
            for (int i = 0; i < 30; i++) {
                d.word(true, 2, i);
            }
        }, d -> d.word(true, 1, 2), MillDesk.FULL);
    }

    private static void words() {
        Due.says("LINES, of up to 8 WORDS: a LETTER and an int");
        Desk desk = new Desk();
        int[][] eight = {{0, 1}, {0, 18}, {0, 20}, {0, 90}, {8, 500}, {3, 7}, {4, 8}, {2, 9}};
        for (int i = 0; i < 8; i++) {
            Due.is("word " + (i + 1), desk.word(i == 0, eight[i][0], eight[i][1]), i + 1);
        }
        Due.is("a ninth", desk.word(false, 1, 0), MillDesk.FULL);
        Due.is("the first of another LINE", desk.word(true, 0, 0), 1);
        Due.is("the second of another LINE", desk.word(false, 0, 3), 2);
        Due.is("by the sixth word", desk.after(0, 1), 35);
        Due.is("by the seventh word", desk.after(0, 2), 40);
        Due.is("by the eighth word", desk.after(0, 0), 45);
        Due.is("the words of the next LINE are its own", desk.check(), 12);
        // The words of a LINE end with it: neither the next LINE's nor those of a PROGRAM before count.
        Due.check("G1 G18 G20 G90 F500 Y7 Z8 X9 / G5", 11);
        Due.check("X1 / X2 / G5", 21);
        Desk again = Due.with("X1 Y1 G5 / X2 X2");
        Due.check("words of a PROGRAM before", again, "X1 Y1", 0);
        Due.check("words of a PROGRAM before", again, "X1 / X2", 0);
        Desk last = new Desk();
        for (int i = 0; i < 30; i++) {
            last.word(true, 8, 9);
        }
        for (int letter = 1; letter < 8; letter++) {
            Due.is("eight words of LINE 29", last.word(false, letter, 2), letter + 1);
        }
        Due.is("check of eight words in LINE 29", last.check(), 293);
        Twins.refused("a ninth word", d -> Due.load(d, "G1 G17 G20 G90 G54 F500 X3 Y4"),
            d -> d.word(false, 1, 0), MillDesk.FULL);
        Twins.refused("a ninth word of LINE 1", d -> Due.load(d, "X1 / G1 G17 G20 G90 G54 F500 X3 Y4"),
            d -> d.word(false, 4, 3), MillDesk.FULL);
    }

    private static int alone(int letter, int value) {
        Desk desk = new Desk();
        desk.word(true, letter, value);
        return desk.check();
    }

    private static void letters() {
        Due.says("LETTERS: 0 G, 1 M, 2 X, 3 Y, 4 Z, 5 I, 6 J, 7 K, 8 F, 9 P");
        int[] zeros = {0, 0, 0, 0, 0, 3, 3, 3, 1, 3};
        int[] lessThanZero = {1, 1, 6, 6, 6, 3, 3, 3, 1, 1};
        for (int letter = 0; letter < 10; letter++) {
            Due.is("letter " + letter + " with 0", alone(letter, 0), zeros[letter]);
            Due.is("letter " + letter + " with -1", alone(letter, -1), lessThanZero[letter]);
        }
        Due.is("M2", alone(1, 2), 0);
        Due.is("G2", alone(0, 2), 0);
        Due.is("F1", alone(8, 1), 0);
        Due.leads("X1 Y2 Z3", 1, 2, 3);
        for (int axis = 0; axis < 3; axis++) {
            // Of the planes that have the axis, and of the one that has not.
            for (int plane = 17; plane <= 19; plane++) {
                String turn = "X9 Y9 Z9 / F9 G2 G" + plane + " " + CENTRES.charAt(axis) + "4";
                Due.check(turn, axis == 19 - plane ? 15 : 0);
            }
        }
    }

    private static void groups() {
        Due.says("G WORDS have GROUPS: MOTION, PLANE, SCALE, WAY, ORIGIN, ONCE");
        for (int one = 0; one < GROUPS.length; one++) {
            for (int other = 0; other < GROUPS.length; other++) {
                for (int g : GROUPS[one]) {
                    for (int h : GROUPS[other]) {
                        Desk desk = Due.with("G" + g + " G" + h);
                        Due.is("G" + g + " G" + h + " are of one GROUP", desk.check() == 2 ? 1 : 0, one == other ? 1 : 0);
                    }
                }
            }
            for (int g : GROUPS[one]) {
                Due.yes("G" + g + " is there", alone(0, g) != 1);
            }
        }
        int[] none = {-3000, -1, 5, 16, 22, 27, 29, 52, 56, 89, 93, 3000};
        for (int g : none) {
            Due.is("G" + g, alone(0, g), 1);
        }
        Due.check("G0 G17 G21 G90 G54 G53 X1 Y1", 0);
    }

    private static void mWords() {
        Due.says("M WORDS: 0 PAUSE, 2 END");
        int[] none = {-3000, -1, 1, 3, 3000};
        for (int m : none) {
            Due.is("M" + m, alone(1, m), 1);
        }
        Due.is("M0 WAITS", Due.started("M0 / X1").state(0), 3);
        Due.is("M2 STANDS", Due.started("M2 / X1").state(0), 0);
    }

    // ---- what is in force ----

    private static final String OTHERS = "G1 G18 G20 G91 G55 F500 X1 Y1 / G92 X3 Y3 Z3 / G54 G92 X2 Y2 Z2 / X5 M0 / G3 F400 G19";

    /** A machine that has put everything else in force, in one of several ways. */
    private static Desk used(int how) {
        Desk desk = Due.with(OTHERS);
        Due.is("check of the first program", desk.check(), 0);
        if (how == 0) return desk;
        if (how == 1) desk.trip(0, 12);
        desk.start();
        desk.advance(how == 2 ? 20 : 3000);
        if (how > 3) desk.resume();
        int[] modes = {0, 4, 1, 3, 0};
        Due.is("the first program, " + how, desk.state(0), modes[how]);
        desk.stop();
        return desk;
    }

    private static void beginning() {
        Due.says("When a program begins FAST, 17, 21, 90, 54 and the SPEED 0 are in force, and both ORIGINS are 0");
        for (int how = 0; how < 5; how++) {
            String begun = "begun behind another program, " + how + ":";
            Desk desk = used(how);
            Due.check(begun + " FAST", desk, "X3", 0);
            Due.check(begun + " SPEED 0", desk, "G1 X3", 4);
            Due.check(begun + " 17", desk, "X30 Y30 Z30 / F9 G2 I4 J3", 0);
            Due.load(desk, "X7 Y6 Z5");
            for (int axis = 0; axis < 3; axis++) {
                Due.is(begun + " 21, 90, 54", desk.after(0, axis), 7 - axis);
            }
            Due.load(desk, "G55 X7 Y6 Z5");
            for (int axis = 0; axis < 3; axis++) {
                Due.is(begun + " ORIGIN 55", desk.after(0, axis), 7 - axis);
            }
        }
    }

    private static void fromItsOwnLineOn() {
        Due.says("A G of another GROUP than ONCE, and an F (the SPEED), is in force from its own LINE on");
        Due.leads("X4 G20 / X5 / X5 G21", 20, 0, 0, 25, 0, 0, 5, 0, 0);
        Due.leads("X4 / X4 G91 / X4 / X4 G90", 4, 0, 0, 8, 0, 0, 12, 0, 0, 4, 0, 0);
        Due.leads("X4 / G92 X0 / X3 / X3 G55 / X4 / X4 G54", 4, 0, 0, 4, 0, 0, 7, 0, 0, 3, 0, 0, 4, 0, 0, 8, 0, 0);
        Due.check("X4 F9 G1 / X5", 0);
        Due.check("X4 G1 / X5 F9", 4);
        Due.check("X4 / F9 / X5 G1", 0);
        Due.check("X30 Y30 Z30 / J4 G2 F9 / J4 / G18 / J4", 45);
        Due.check("X30 Y30 Z30 / J4 F9 G3 G18", 15);
        Due.check("X30 Y30 Z30 / K4 F9 G3 G18 / K4", 0);
        Due.check("X30 Y30 Z30 / K4 F9 G3 G18 / K4 G1", 23);
        Desk paces = Due.started("G1 X5 F300 / X10 / X15 F100 / X20 / X25 G0 / X30");
        int[] wants = {300, 100, 100, 100, 800, 0};
        for (int k = 0; k < 6; k++) {
            Due.is("the SPEED: joint(" + k + ")", paces.joint(k), wants[k]);
        }
    }

    private static void onceAlone() {
        Due.says("A G of another GROUP than ONCE .. is in force from its own LINE on (one of ONCE is not)");
        Due.leads("X4 / G92 X0 / G53 X9 / X9", 4, 0, 0, 4, 0, 0, 9, 0, 0, 13, 0, 0);
        Due.leads("X4 / G28 X4 / X4", 4, 0, 0, 0, 0, 0, 4, 0, 0);
        Due.leads("G92 X-4 / X0 / X2", 0, 0, 0, 4, 0, 0, 6, 0, 0);
        Due.leads("G4 P1 / X4", 0, 0, 0, 4, 0, 0);
        Due.check("G4 P1 / P1", 13);
    }

    private static void scale() {
        Due.says("COORDINATES are the ints of X, Y, Z, I, J, K times the SCALE");
        Due.leads("G20 X1 Y2 Z3 / G91 X-1 Y1 Z0 / G21 X1", 5, 10, 15, 0, 15, 15, 1, 15, 15);
        for (int axis = 0; axis < 3; axis++) {
            Due.check("G20 " + AXES.charAt(axis) + "200", 0);
            Due.check("G20 " + AXES.charAt(axis) + "201", 6);
            Due.check("G20 " + AXES.charAt(axis) + "-1", 6);
            Due.check("G20 " + AXES.charAt(axis) + "3000", 6);
            String turn = " / F9 G2 G" + (axis == 2 ? 19 : 17) + " G20 " + CENTRES.charAt(axis);
            Due.check("X400 Y400 Z400" + turn + "60", 0);
            Due.check("X400 Y400 Z400" + turn + "61", 15);
            Due.check("X600 Y600 Z600" + turn + "-60", 0);
            Due.check("X600 Y600 Z600" + turn + "-61", 15);
        }
        Due.leads("X50 Y50 / G20 G2 F500 G91 I1 X2 / G21 I1 X2", 50, 50, 0, 60, 50, 0, 62, 50, 0);
        Due.is("not of F", Due.started("G20 G1 F100 X1 / X2").joint(0), 100);
        Due.check("G20 F1000", 0);
        Due.is("not of P", Due.started("G20 G4 P100").state(6), 100);
        Due.check("G20 G4 P1000", 0);
    }

    private static void moves() {
        Due.says("A LINE MOVES if it has no G of ONCE but MACHINE, and an X, Y or Z, or with ROUND in force I, J or K");
        // With STRAIGHT or ROUND and the SPEED 0 just the LINES that MOVE are WRONG by 4.
        for (int axis = 0; axis < 3; axis++) {
            char name = AXES.charAt(axis);
            Due.check("G1 " + name + "0", 4);
            Due.check("G1 G53 " + name + "0", 4);
            Due.check("G1 G28 " + name + "0", 0);
            Due.check("G1 G92 " + name + "0", 0);
            Due.check("G2 " + name + "0", 4);
            Due.check("G3 " + CENTRES.charAt(axis) + "0", 4);
            Due.check("G2 G28 " + name + "0", 0);
            Due.check("G2 G92 " + name + "0", 0);
            Due.check("G0 " + name + "0", 0);
        }
        Due.check("G1 G4 P1", 0);
        Due.check("G1 G90 M0", 0);
        Due.check("G2", 0);
        Due.check("G3 G4 P1", 0);
    }

    // ---- what LINES do ----

    private static void dwell() {
        Due.says("DWELL: nothing for P ticks");
        int[] ticks = {1, 2, 999, 1000};
        for (int p : ticks) {
            Desk desk = Due.started("G4 P" + p + " / X1");
            Due.state("DWELL of " + p, desk, 2, 0, 0, 0, 0, 0, p, 0, 0);
            Due.is("all but one tick", desk.advance(p - 1), 0);
            Due.state("the last tick of " + p + " is left", desk, 2, 0, 0, 0, 0, 0, 1, 0, p - 1);
            Due.is("the last tick", desk.advance(1), 0);
            Due.state("DWELL of " + p + " is over", desk, 1, 0, 0, 1, 0, 1, 0, 0, p);
            Due.at("nothing is done", desk, 0, 0, 0);
        }
        Due.state("DWELL of 0", Due.started("G4 P0 / X1"), 1, 0, 0, 1, 0, 1, 0, 0, 0);
    }

    private static void home() {
        Due.says("HOME: it goes, FAST, to 0 on the axes named");
        Due.leads("X5 Y6 Z7 / G28 X9", 5, 6, 7, 0, 6, 7);
        Due.leads("X5 Y6 Z7 / G28 Y-9", 5, 6, 7, 5, 0, 7);
        Due.leads("X5 Y6 Z7 / G28 Z3000", 5, 6, 7, 5, 6, 0);
        Due.leads("X5 Y6 Z7 / G92 X0 Y0 Z0 / G28 X0 Y0 Z0", 5, 6, 7, 5, 6, 7, 0, 0, 0);
        Due.leads("G28 X9 Y9 Z9", 0, 0, 0);
        Due.is("from 0 there is no way", Due.started("G28 X9 Y9 Z9").state(0), 0);
        Desk fast = Due.started("X100 / G1 F50 / G91 X-1 / G90 G28 X0 / G91 X1");
        Due.is("FAST, whatever the SPEED", fast.joint(1), 50);
        Desk both = Due.started("X100 / M0 / G1 F50 / G28 Y0 X5 / X0");
        both.advance(3000);
        both.resume();
        Due.paces("FAST, whatever the MOTION in force", both, 20, 40, 60, 80);
        Desk round = Due.started("X100 / M0 / G2 F50 / G28 X5");
        round.advance(3000);
        round.resume();
        Due.paces("FAST, with ROUND in force", round, 20, 40, 60, 80);
        Due.is("a straight way", round.state(5) + round.state(4), 100);
    }

    private static void shift() {
        Due.says("SHIFT: the ORIGIN in force becomes, on the axes named, the POSITION less the COORDINATE");
        Due.leads("X5 Y6 Z7 / G92 X1 / X0 Y0 Z0", 5, 6, 7, 5, 6, 7, 4, 0, 0);
        Due.leads("X5 Y6 Z7 / G92 Y1 / X0 Y0 Z0", 5, 6, 7, 5, 6, 7, 0, 5, 0);
        Due.leads("X5 Y6 Z7 / G92 Z-1 / X0 Y0 Z0", 5, 6, 7, 5, 6, 7, 0, 0, 8);
        // Whatever the WAY is, and by the ORIGIN and SCALE of its own LINE.
        Due.leads("X10 / G91 G92 X4 / X3 / G90 X3", 10, 0, 0, 10, 0, 0, 13, 0, 0, 9, 0, 0);
        Due.leads("X10 / G92 X0 G55 / X5 / X5 G54", 10, 0, 0, 10, 0, 0, 15, 0, 0, 5, 0, 0);
        Due.leads("X10 / G92 X1 G20 / X0 G21 / G92 X0 / X1", 10, 0, 0, 10, 0, 0, 5, 0, 0, 5, 0, 0, 6, 0, 0);
        // The greatest COORDINATES: ORIGINS far outside, and back to places inside.
        Due.leads("G20 G92 X3000 / X3000 / G21 G92 X0 / X9", 0, 0, 0, 0, 0, 0, 0, 0, 0, 9, 0, 0);
        Due.leads("G20 G92 X-3000 / X-3000 / X-2999 / X-2800", 0, 0, 0, 0, 0, 0, 5, 0, 0, 1000, 0, 0);
        Due.check("G20 G92 X-3000 / X-2799", 16);
        Due.check("G20 G92 X-3000 / X0", 16);
        Due.check("G20 G92 X3000 / X2999", 16);
        Due.leads("X1000 / G20 G92 X-3000 / X-3000", 1000, 0, 0, 1000, 0, 0, 1000, 0, 0);
        Due.check("X1000 / G20 G92 X-3000 / X-2999", 26);
    }

    private static void goals() {
        Due.says("on the axes named, the COORDINATE and the ORIGIN with 90, the old one and the COORDINATE with 91");
        Due.leads("X4 Y4 Z4 / G92 X1 Y2 Z3 / X1 / Y3 / Z5 / G91 X1 / Y-1 / Z0",
            4, 4, 4, 4, 4, 4, 4, 4, 4, 4, 5, 4, 4, 5, 6, 5, 5, 6, 5, 4, 6, 5, 4, 6);
        Due.leads("X4 / G92 X0 / X-4 / X996", 4, 0, 0, 4, 0, 0, 0, 0, 0, 1000, 0, 0);
        Due.check("X4 / G92 X0 / X-5", 26);
        Due.check("X4 / G92 X0 / X997", 26);
        Due.leads("X4 / G91 X-4 / X1000", 4, 0, 0, 0, 0, 0, 1000, 0, 0);
        Due.check("X4 / G91 X-5", 16);
        Due.check("X4 / G91 X996", 0);
        Due.check("X4 / G91 X997", 16);
    }

    private static void machine() {
        Due.says("(MACHINE: the COORDINATE)");
        Due.leads("X4 Y4 / G92 X0 Y0 / G53 X0 / G53 Y1000 / X0 Y0", 4, 4, 0, 4, 4, 0, 0, 4, 0, 0, 1000, 0, 4, 4, 0);
        Due.check("X4 / G92 X0 / G53 X-1", 26);
        Due.check("X4 / G92 X0 / G53 X1000", 0);
        Due.check("X4 / G92 X0 / G53 X1001", 26);
        Due.leads("X4 / G55 G92 X0 / G53 X7 / X7 / G54 X7", 4, 0, 0, 4, 0, 0, 7, 0, 0, 11, 0, 0, 7, 0, 0);
    }

    private static void centre() {
        Due.says("The centre of ROUND is I, J, K (0 if not there) from the start");
        Due.leads("X20 Y20 / G92 X0 Y0 / F900 G2 I3 X6 / J-3 Y-6 / I-3 J0 X0", 20, 20, 0, 20, 20, 0, 26, 20, 0, 26, 14, 0, 20, 14, 0);
        Due.leads("X20 Y20 / F900 G2 G91 I3 X6 / J-3 Y-6", 20, 20, 0, 26, 20, 0, 26, 14, 0);
        // The centre may lie outside, as long as the tool does not come there.
        Due.leads("Y5 / F900 G2 I-3 J-4 X1 Y4", 0, 5, 0, 1, 4, 0);
        Due.leads("X1000 Y5 / F900 G3 I3 J-4 X999 Y4", 1000, 5, 0, 999, 4, 0);
    }

    private static void pauseAndEnd() {
        Due.says("Then PAUSE or END, if it has one");
        Desk way = Due.quick("X1 M0 / X2 M2 / X3");
        way.advance(3);
        Due.state("before the PAUSE", way, 1, 0, 300, 0, 0, 1);
        way.advance(1);
        Due.state("the PAUSE behind the way", way, 3, 0, 0, 0, 0, 0, 0, 1, 4);
        way.resume();
        way.advance(3);
        Due.state("before END", way, 1, 0, 300, 1, 0, 1);
        way.advance(1);
        Due.state("END behind the way", way, 0, 0, 0, -1, 0, 0, 0, 2, 8);
        Desk dwell = Due.started("G4 P1 M0 / G4 P1 M2 / X3");
        Due.is("before the PAUSE", dwell.state(0), 2);
        dwell.advance(1);
        Due.state("the PAUSE behind the DWELL", dwell, 3, 0, 0, 0, 0, 0, 0, 0, 1);
        dwell.resume();
        Due.is("before END", dwell.state(0), 2);
        dwell.advance(1);
        Due.state("END behind the DWELL", dwell, 0, 0, 0, -1, 0, 0, 0, 0, 2);
        Due.leads("X3 / G92 X0 M0 / X1", 3, 0, 0, 3, 0, 0, 4, 0, 0);
        Due.leads("X3 / G28 X0 M0 / X1", 3, 0, 0, 0, 0, 0, 1, 0, 0);
    }

    private static void lastLine() {
        Due.says("Behind END, or the last LINE, the machine STANDS");
        String[] programs = {"X1", "X1 M2", "X1 / M2", "X1 / F5", "X1 / G4 P0", "X1 / M2 / X2", "X1 / X1 / M2 / M0 / G4 P9"};
        for (String program : programs) {
            Desk desk = Due.quick(program);
            desk.advance(3);
            Due.is("it RUNS: " + program, desk.state(0), 1);
            desk.advance(1);
            Due.state("it STANDS: " + program, desk, 0, 0, 0, -1, 0, 0, 0, 1, 4);
            Due.is("no more is done: " + program, desk.advance(100), 0);
            Due.at("no more is done: " + program, desk, 1, 0, 0);
        }
        Desk dwell = Due.started("G4 P1");
        dwell.advance(1);
        Due.is("behind a DWELL", dwell.state(0), 0);
        Desk waits = Due.started("M0");
        waits.resume();
        Due.is("behind a PAUSE", waits.state(0), 0);
    }

    private static void behindEnd() {
        Due.says("LINES behind END are not looked at");
        String[] wrong = {"G5", "X1 X1", "P1", "G1 X1", "G2 F9 X1", "X1001"};
        for (int i = 0; i < wrong.length; i++) {
            Due.check("X1 / X2 M2 / " + wrong[i], 0);
            Due.check("M2 / " + wrong[i], 0);
            Due.check("X1 / X2 M0 / " + wrong[i], 21 + i);
            // The WRONG LINE before END, or with it.
            Due.check("X1 / " + wrong[i] + " / M2", 11 + i);
            Due.check("X1 / " + wrong[i] + " M2", 11 + i);
        }
        Desk desk = Due.with("X1 / X2 M2 / G92 X9 / X5");
        Due.is("behind END'S LINE", desk.after(1, 0), 2);
        Due.is("behind the next", desk.after(2, 0), MillDesk.BAD);
        desk.start();
        desk.advance(3000);
        Due.at("END", desk, 2, 0, 0);
    }
}
