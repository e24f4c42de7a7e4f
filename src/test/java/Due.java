/** Compares answers with those that are due, and loads programs written as text. */
final class Due {
    private static final String LETTERS = "GMXYZIJKFP";
    private static int compared = 0;
    private static int wrong = 0;

    private Due() {
    }

    static void is(String what, long got, long want) {
        compared++;
        if (got != want) {
            wrong++;
            System.out.println(what + ": answered " + got + ", due is " + want);
        }
    }

    static void yes(String what, boolean got) {
        is(what, got ? 1 : 0, 1);
    }

    static void no(String what, boolean got) {
        is(what, got ? 1 : 0, 0);
    }

    /** A new object with a program: LINES parted by '/', WORDS by blanks, "G1 X8 F300 / X4". */
    static MillDesk with(String program) {
        MillDesk desk = new MillDesk();
        load(desk, program);
        return desk;
    }

    static MillDesk started(String program) {
        MillDesk desk = with(program);
        yes("start of " + program, desk.start());
        return desk;
    }

    static void load(MillDesk desk, String program) {
        desk.clear();
        for (String line : program.split("/")) {
            int count = 0;
            for (String word : line.trim().split(" +")) {
                int letter = LETTERS.indexOf(word.charAt(0));
                int value = Integer.parseInt(word.substring(1));
                count++;
                is("word " + word + " of " + program, desk.word(count == 1, letter, value), count);
            }
        }
    }

    static void at(String what, MillDesk desk, int x, int y, int z) {
        is(what + ": at(0)", desk.at(0), x);
        is(what + ": at(1)", desk.at(1), y);
        is(what + ": at(2)", desk.at(2), z);
    }

    /** The answers of state for 0, 1, 2 and so on. */
    static void state(String what, MillDesk desk, int... wants) {
        for (int i = 0; i < wants.length; i++) {
            is(what + ": state(" + i + ")", desk.state(i), wants[i]);
        }
    }

    /** The paces behind each of the next ticks. */
    static void paces(String what, MillDesk desk, int... wants) {
        for (int i = 0; i < wants.length; i++) {
            desk.advance(1);
            is(what + ": pace behind tick " + (i + 1), desk.state(2), wants[i]);
        }
    }

    /** Where the tool is on two axes behind each of the next STEPS, as x, y, x, y. */
    static void way(String what, MillDesk desk, int one, int other, int... wants) {
        for (int i = 0; i + 1 < wants.length; i += 2) {
            int done = 0;
            for (int t = 0; t < 3000 && done == 0; t++) {
                done = desk.advance(1);
            }
            is(what + ": STEPS in a tick", done, 1);
            is(what + ": axis " + one + " behind STEP " + (i / 2 + 1), desk.at(one), wants[i]);
            is(what + ": axis " + other + " behind STEP " + (i / 2 + 1), desk.at(other), wants[i + 1]);
        }
    }

    static void end(String test) {
        System.out.println(test + ": " + compared + " answers compared, " + wrong + " wrong");
        if (wrong != 0) System.exit(1);
    }
}
