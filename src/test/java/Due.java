import java.util.HashSet;
import java.util.Set;

/** Compares answers with those that are due, and loads programs written as text. */
final class Due {
    private static final String LETTERS = "GMXYZIJKFP";
    private static int compared = 0;
    private static int wrong = 0;
    private static final Set<String> SENTENCES = new HashSet<>();
    private static String sentence = "";

    private Due() {
    }

    /** What follows, up to the next one, tests this sentence of the document. */
    static void says(String words) {
        SENTENCES.add(words);
        sentence = "\"" + words + "\": ";
    }

    static void is(String what, long got, long want) {
        compared++;
        if (got != want) {
            wrong++;
            System.out.println(sentence + what + ": answered " + got + ", due is " + want);
        }
    }

    static void yes(String what, boolean got) {
        is(what, got ? 1 : 0, 1);
    }

    static void no(String what, boolean got) {
        is(what, got ? 1 : 0, 0);
    }

    /** A new object with a program: LINES parted by '/', WORDS by blanks, "G1 X8 F300 / X4". */
    static Desk with(String program) {
        Desk desk = new Desk();
        load(desk, program);
        return desk;
    }

    static Desk started(String program) {
        Desk desk = with(program);
        yes("start of " + program, desk.start());
        return desk;
    }

    /** What check says of a program, and that start goes by it. */
    static void check(String program, int want) {
        check("", new Desk(), program, want);
    }

    static void check(String what, Desk desk, String program, int want) {
        load(desk, program);
        is(what + " check of " + program, desk.check(), want);
        is(what + " start of " + program, desk.start() ? 1 : 0, want == 0 ? 1 : 0);
        desk.stop();
    }

    /** A quick machine: FASTEST 2000, GAIN 200. */
    static Desk quick(String program) {
        Desk desk = with(program);
        yes("FASTEST 2000", desk.set(3, 2000));
        yes("GAIN 200", desk.set(4, 200));
        yes("start of " + program, desk.start());
        return desk;
    }

    /** Where a program leads from 0, 0, 0, by after and by going there. */
    static void leads(String program, int... wants) {
        Desk desk = with(program);
        for (int i = 0; i < wants.length; i++) {
            is("after(" + i / 3 + ", " + i % 3 + ") of " + program, desk.after(i / 3, i % 3), wants[i]);
        }
        yes("start of " + program, desk.start());
        for (int i = 0; i < 100 && desk.state(0) != 0; i++) {
            desk.advance(3000);
            desk.resume();
        }
        int last = wants.length - 3;
        at("at the end of " + program, desk, wants[last], wants[last + 1], wants[last + 2]);
    }

    static void load(Desk desk, String program) {
        desk.clear();
        for (String line : program.split("/")) {
            int count = 0;
            for (String word : line.trim().split(" +")) {
                int letter = LETTERS.indexOf(word.charAt(0));
                int value = Integer.parseInt(word.substring(1));
                count++;
                is("word " + word + " of " + program, desk.word(count == 1, letter, value), count);
            }
        }
    }

    static void at(String what, Desk desk, int x, int y, int z) {
        is(what + ": at(0)", desk.at(0), x);
        is(what + ": at(1)", desk.at(1), y);
        is(what + ": at(2)", desk.at(2), z);
    }

    /** The answers of state for 0, 1, 2 and so on. */
    static void state(String what, Desk desk, int... wants) {
        for (int i = 0; i < wants.length; i++) {
            is(what + ": state(" + i + ")", desk.state(i), wants[i]);
        }
    }

    /** The paces behind each of the next ticks. */
    static void paces(String what, Desk desk, int... wants) {
        for (int i = 0; i < wants.length; i++) {
            desk.advance(1);
            is(what + ": pace behind tick " + (i + 1), desk.state(2), wants[i]);
        }
    }

    /** Where the tool is on two axes behind each of the next STEPS, as x, y, x, y. */
    static void way(String what, Desk desk, int one, int other, int... wants) {
        for (int i = 0; i + 1 < wants.length; i += 2) {
            int done = 0;
            for (int t = 0; t < 3000 && done == 0; t++) {
                done = desk.advance(1);
            }
            is(what + ": STEPS in a tick", done, 1);
            is(what + ": axis " + one + " behind STEP " + (i / 2 + 1), desk.at(one), wants[i]);
            is(what + ": axis " + other + " behind STEP " + (i / 2 + 1), desk.at(other), wants[i + 1]);
        }
    }

    static void end(String test) {
        String of = SENTENCES.isEmpty() ? "" : " for " + SENTENCES.size() + " sentences";
        System.out.println(test + ": " + compared + " answers compared" + of + ", " + wrong + " wrong");
        if (wrong != 0) System.exit(1);
    }
}
