import java.util.ArrayList;
import java.util.List;
import java.util.function.Consumer;
import java.util.function.ToIntFunction;

/**
 * That a call changes nothing: of two machines that were made alike one gets the call, and from then on
 * both answer alike, whatever is asked: what they tell, how they go on, their PROGRAM, LIMITS, settings
 * and switches.
 */
final class Twins {
    private final Desk desk;
    private final List<String> told = new ArrayList<>();
    private final int[] limits = new int[3];

    private Twins(Desk desk) {
        this.desk = desk;
    }

    static void refused(String what, Consumer<Desk> made, ToIntFunction<Desk> call, int want) {
        Desk with = new Desk();
        Desk without = new Desk();
        made.accept(with);
        made.accept(without);
        Due.is(what, call.applyAsInt(with), want);
        alike(what, with, without);
    }

    /** That two ways to make a machine come to the same. */
    static void same(String what, Consumer<Desk> made, Consumer<Desk> asWell) {
        Desk one = new Desk();
        Desk other = new Desk();
        made.accept(one);
        asWell.accept(other);
        alike(what, one, other);
    }

    private static void alike(String what, Desk with, Desk without) {
        List<String> changed = allOf(with);
        List<String> due = allOf(without);
        for (int i = 0; i < due.size(); i++) {
            if (i < changed.size() && due.get(i).equals(changed.get(i))) continue;
            String now = i < changed.size() ? changed.get(i) : "nothing";
            Due.yes(what + " changes nothing (then " + now + ", without it " + due.get(i) + ")", false);
            return;
        }
        Due.is(what + ": answers behind it", changed.size(), due.size());
    }

    private static List<String> allOf(Desk desk) {
        Twins twin = new Twins(desk);
        twin.now();
        twin.onward();
        twin.program();
        twin.limits();
        twin.settings();
        twin.switches();
        return twin.told;
    }

    private int tell(String call, int answer) {
        told.add(call + " is " + answer);
        return answer;
    }

    private boolean tell(String call, boolean answer) {
        told.add(call + " is " + answer);
        return answer;
    }

    private void places() {
        for (int axis = 0; axis < 3; axis++) {
            tell("at(" + axis + ")", desk.at(axis));
        }
    }

    private void now() {
        for (int what = 0; what < 9; what++) {
            tell("state(" + what + ")", desk.state(what));
        }
        places();
        for (int k = 0; k < 6; k++) {
            tell("joint(" + k + ")", desk.joint(k));
        }
        tell("check", desk.check());
        for (int i = 0; i < 9; i++) {
            tell("after(" + i / 3 + ", " + i % 3 + ")", desk.after(i / 3, i % 3));
        }
    }

    private void onward() {
        for (int i = 0; i < 10; i++) {
            tell("advance", desk.advance(1));
            tell("the pace", desk.state(2));
            places();
        }
        tell("resume", desk.resume());
        tell("advance(30)", desk.advance(30));
        int[] whats = {0, 1, 3, 4, 6, 8};
        for (int what : whats) {
            tell("state(" + what + ")", desk.state(what));
        }
    }

    /** How many words the last LINE has, and how many LINES there is room for. */
    private void program() {
        tell("stop", desk.stop());
        tell("check behind stop", desk.check());
        tell("another word", desk.word(false, 2, 0));
        int more = 0;
        while (more < 31 && desk.word(true, 3, 0) == 1) {
            more++;
        }
        tell("LINES more", more);
    }

    private void limits() {
        for (int axis = 0; axis < 3; axis++) {
            int in = 0;
            int out = 1001;
            while (out - in > 1) {
                int between = (in + out) / 2;
                desk.clear();
                desk.word(true, 2 + axis, between);
                if (desk.check() == 0) in = between;
                else out = between;
            }
            limits[axis] = in;
            tell("the LIMIT of " + axis, in);
        }
    }

    /** Six BLOCKS of a STEP in line, then a bend of which the PACE is just BEND. */
    private void settings() {
        int x = desk.at(0) + 7 <= limits[0] ? 1 : -1;
        int y = desk.at(1) + 2 <= limits[1] ? 2 : -2;
        desk.clear();
        desk.word(true, 0, 91);
        desk.word(false, 2, x);
        for (int i = 0; i < 6; i++) {
            desk.word(true, 2, x);
        }
        desk.word(false, 3, y);
        tell("start", desk.start());
        for (int k = 0; k < 6; k++) {
            tell("joint(" + k + ")", desk.joint(k));
        }
        for (int i = 0; i < 28; i++) {
            // Slow settings show how far AHEAD goes only behind some forty ticks.
            desk.advance(i < 8 ? 1 : 2);
            tell("the pace", desk.state(2));
        }
        tell("stop", desk.stop());
    }

    /** From 0 to the LIMITS and back, over every switch. */
    private void switches() {
        tell("set", desk.set(3, 2000) && desk.set(4, 200) && desk.set(6, 6));
        goTo(0, 0, 0);
        goTo(limits[0], limits[1], limits[2]);
        goTo(0, 0, 0);
    }

    private void goTo(int x, int y, int z) {
        desk.clear();
        desk.word(true, 2, x);
        desk.word(false, 3, y);
        desk.word(false, 4, z);
        int how = 4;
        for (int i = 0; i < 4 && how == 4; i++) {
            tell("start", desk.start());
            tell("advance", desk.advance(1500));
            how = tell("state(0)", desk.state(0));
            places();
            tell("stop", desk.stop());
        }
    }
}
