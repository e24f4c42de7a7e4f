/**
 * A machine that moves a tool along three axes by programs of lines of words.
 *
 * A PROGRAM is laid out whole before it runs: for every LINE the place behind it, its way, its DWELL
 * and its PAUSE. Nothing that this depends on can change until the machine STANDS again, so a run,
 * check, after and joint all read the same layout.
 */
public final class MillDesk {
    public static final int BAD = -1, FULL = -2;

    private static final int AXES = 3;
    private static final int NONE = -1;

    private static final int MOST_LINES = 30, MOST_WORDS = 8;
    private static final int WORD_PLACES = 240;
    private static final int MOST_VALUE = 3000;
    private static final int MOST_TICKS = 3000;
    private static final int MOST_PLACE = 1000;
    private static final int MOST_FASTEST = 2000;
    private static final int MOST_GAIN = 200;
    private static final int MOST_BEND = 2000;
    private static final int MOST_AHEAD = 6;
    private static final int ENDS_TOLD = 6;
    private static final int MOST_SPEED = 1000;
    private static final int MOST_DWELL = 1000;
    private static final int MOST_RADIUS = 300;
    // The longest ROUND way of a radius up to 300 has 1696 STEPS.
    private static final int MOST_ROUND_STEPS = 1000000;
    private static final int STEP_LENGTH = 1000;

    private static final int G = 0, M = 1, X = 2, I = 5, F = 8, P = 9;
    private static final int LETTERS = 10;
    private static final int ANY_AXIS = 7 << X, ANY_CENTRE = 7 << I;

    private static final int MOTION = 0, PLANE = 1, SCALE = 2, WAY = 3, ORIGIN = 4, ONCE = 5;
    private static final int GROUPS = 6;
    private static final int FAST = 0, ROUND_BACK = 2, ROUND_ON = 3;
    private static final int PLANE_XY = 17, PLANE_YZ = 19;
    private static final int BY_FIVE = 20, BY_ONE = 21;
    private static final int PLACED = 90, FURTHER = 91;
    private static final int FIRST_ORIGIN = 54, SECOND_ORIGIN = 55;
    private static final int DWELL = 4, HOME = 28, MACHINE = 53, SHIFT = 92;
    private static final int PAUSE = 0, END = 2;

    private static final int STANDS = 0, RUNS = 1, DWELLS = 2, WAITS = 3, TRIPPED = 4;

    // Rows of three places: row 0 is where the PROGRAM begins, row n + 1 is behind LINE n.
    private static final int ROW_PLACES = 93;
    private static final int CENTRE_PLACES = 60;
    private static final int ORIGIN_PLACES = 6;

    // The PROGRAM.
    private int lines = 0;
    private final int[] wordCounts = new int[MOST_LINES];
    private final int[] letters = new int[WORD_PLACES];
    private final int[] values = new int[WORD_PLACES];

    // What set and trip say.
    private final int[] limits = new int[AXES];
    private final int[] switches = new int[AXES];
    private int fastest = 800;
    private int gain = 20;
    private int bend = 400;
    private int ahead = 3;

    // The machine.
    private final int[] tool = new int[AXES];
    private int mode = STANDS;
    private boolean holds = false;
    private int pace = 0;
    private int line = NONE;
    private int gone = 0;
    private int dwellLeft = 0;
    private int stepsInAll = 0;
    private int ticksInAll = 0;

    // What is in force while a LINE is laid out, and the words of that LINE.
    private final int[] inForce = new int[GROUPS];
    private final int[] origins = new int[ORIGIN_PLACES];
    private int speed = 0;
    private int present = 0;
    private final int[] given = new int[LETTERS];

    // The layout, by LINE.
    private int laid = 0;
    private final int[] rows = new int[ROW_PLACES];
    private final int[] probe = new int[AXES];
    private final int[] motions = new int[MOST_LINES];
    private final int[] thirds = new int[MOST_LINES];
    private final int[] centres = new int[CENTRE_PLACES];
    private final int[] steps = new int[MOST_LINES];
    private final int[] paces = new int[MOST_LINES];
    private final int[] dwells = new int[MOST_LINES];
    private final int[] marks = new int[MOST_LINES];
    private final int[] nexts = new int[MOST_LINES];
    private final int[] joints = new int[MOST_LINES];

    public MillDesk() {
        for (int axis = 0; axis < AXES; axis++) {
            limits[axis] = MOST_PLACE;
            switches[axis] = NONE;
        }
    }

    public boolean clear() {
        if (mode != STANDS) return false;
        lines = 0;
        return true;
    }

    public int word(boolean fresh, int letter, int value) {
        if (mode != STANDS || letter < 0 || letter >= LETTERS) return BAD;
        if (value < -MOST_VALUE || value > MOST_VALUE) return BAD;
        if (!fresh && lines == 0) return BAD;
        if (fresh) {
            if (lines == MOST_LINES) return FULL;
            wordCounts[lines] = 0;
            lines++;
        }
        int last = lines - 1;
        int count = wordCounts[last];
        if (count == MOST_WORDS) return FULL;
        letters[last * MOST_WORDS + count] = letter;
        values[last * MOST_WORDS + count] = value;
        wordCounts[last] = count + 1;
        return count + 1;
    }

    public boolean set(int what, int v) {
        if (mode != STANDS || v < leastSetting(what) || v > mostSetting(what)) return false;
        switch (what) {
            case 0:
            case 1:
            case 2:
                limits[what] = v;
                break;
            case 3:
                fastest = v;
                break;
            case 4:
                gain = v;
                break;
            case 5:
                bend = v;
                break;
            default:
                ahead = v;
                break;
        }
        return true;
    }

    public int check() {
        return layOut();
    }

    public boolean start() {
        if (mode != STANDS || lines == 0) return false;
        int fault = layOut();
        if (fault != 0) return false;
        findJoints();
        beginAt(0);
        return true;
    }

    public int advance(int n) {
        if (n < 0 || n > MOST_TICKS) return BAD;
        int before = stepsInAll;
        for (int i = 0; i < n; i++) {
            tick();
        }
        return stepsInAll - before;
    }

    public boolean hold() {
        if (holds || mode != RUNS && mode != DWELLS) return false;
        holds = true;
        return true;
    }

    public boolean resume() {
        if (mode == WAITS) {
            beginAt(line + 1);
            return true;
        }
        if (!holds) return false;
        holds = false;
        return true;
    }

    public boolean stop() {
        if (mode == STANDS) return false;
        restAs(STANDS);
        return true;
    }

    public boolean trip(int axis, int at) {
        if (axis < 0 || axis >= AXES || at < NONE || at > MOST_PLACE) return false;
        switches[axis] = at;
        return true;
    }

    public int at(int axis) {
        if (axis < 0 || axis >= AXES) return BAD;
        return tool[axis];
    }

    public int state(int what) {
        switch (what) {
            case 0:
                return mode;
            case 1:
                return holds ? 1 : 0;
            case 2:
                return pace;
            case 3:
                return mode == STANDS ? NONE : line;
            case 4:
                return hasBlock() ? gone / STEP_LENGTH : 0;
            case 5:
                return hasBlock() ? steps[line] - gone / STEP_LENGTH : 0;
            case 6:
                return mode == DWELLS ? dwellLeft : 0;
            case 7:
                return stepsInAll;
            case 8:
                return ticksInAll;
            default:
                return BAD;
        }
    }

    public int after(int line, int axis) {
        if (axis < 0 || axis >= AXES || line < 0) return BAD;
        layOut();
        if (line >= laid) return BAD;
        return rows[(line + 1) * AXES + axis];
    }

    public int joint(int k) {
        if (k < 0 || k >= ENDS_TOLD || !hasBlock()) return BAD;
        int block = line;
        for (int i = 0; i < k && block != NONE; i++) {
            block = nexts[block];
        }
        return block == NONE ? 0 : joints[block];
    }

    // ---- settings ----

    private int leastSetting(int what) {
        if (what < 0) return MOST_PLACE;
        if (what < AXES) return tool[what] > 1 ? tool[what] : 1;
        return what == 5 ? 0 : 1;
    }

    /** Below every least setting where there is no such setting. */
    private int mostSetting(int what) {
        switch (what) {
            case 0:
            case 1:
            case 2:
                return MOST_PLACE;
            case 3:
                return MOST_FASTEST;
            case 4:
                return MOST_GAIN;
            case 5:
                return MOST_BEND;
            case 6:
                return MOST_AHEAD;
            default:
                return NONE;
        }
    }

    // ---- laying out the PROGRAM ----

    /** Lays out the LINES up to END: 0, or 10 times the first WRONG one, and why. */
    private int layOut() {
        // A PROGRAM that has begun had no WRONG LINE, and its layout still stands.
        if (mode != STANDS) return 0;
        putFirstInForce();
        laid = 0;
        for (int ln = 0; ln < lines; ln++) {
            int why = readWords(ln);
            if (why == 0) why = mixFault();
            if (why == 0) why = layLine(ln);
            if (why != 0) return 10 * ln + why;
            laid = ln + 1;
            if (marks[ln] == END) break;
        }
        return 0;
    }

    private void putFirstInForce() {
        inForce[MOTION] = FAST;
        inForce[PLANE] = PLANE_XY;
        inForce[SCALE] = BY_ONE;
        inForce[WAY] = PLACED;
        inForce[ORIGIN] = FIRST_ORIGIN;
        speed = 0;
        for (int i = 0; i < ORIGIN_PLACES; i++) {
            origins[i] = 0;
        }
        for (int axis = 0; axis < AXES; axis++) {
            rows[axis] = tool[axis];
        }
    }

    /** Puts in force what the words of a LINE set: 0, or 1 or 2 if it is WRONG by that. */
    private int readWords(int ln) {
        int from = ln * MOST_WORDS;
        int to = from + wordCounts[ln];
        for (int i = from; i < to; i++) {
            if (!isKnown(letters[i], values[i])) return 1;
        }
        int groups = 0;
        present = 0;
        inForce[ONCE] = NONE;
        for (int i = from; i < to; i++) {
            int letter = letters[i];
            if (letter == G) {
                int group = groupOf(values[i]);
                if ((groups >> group & 1) != 0) return 2;
                groups |= 1 << group;
                inForce[group] = values[i];
            } else {
                if (has(letter)) return 2;
                present |= 1 << letter;
                given[letter] = values[i];
            }
        }
        if (has(F)) speed = given[F];
        return 0;
    }

    private boolean isKnown(int letter, int value) {
        switch (letter) {
            case G:
                return groupOf(value) != NONE;
            case M:
                return value == PAUSE || value == END;
            case F:
                return value >= 1 && value <= MOST_SPEED;
            case P:
                return value >= 0 && value <= MOST_DWELL;
            default:
                return true;
        }
    }

    private int groupOf(int g) {
        if (g >= FAST && g <= ROUND_ON) return MOTION;
        if (g >= PLANE_XY && g <= PLANE_YZ) return PLANE;
        if (g == BY_FIVE || g == BY_ONE) return SCALE;
        if (g == PLACED || g == FURTHER) return WAY;
        if (g == FIRST_ORIGIN || g == SECOND_ORIGIN) return ORIGIN;
        if (g == DWELL || g == HOME || g == MACHINE || g == SHIFT) return ONCE;
        return NONE;
    }

    private boolean has(int letter) {
        return (present >> letter & 1) != 0;
    }

    /** 3 or 4 if the words of the LINE are WRONG together with what is in force, else 0. */
    private int mixFault() {
        int once = inForce[ONCE];
        boolean named = (present & ANY_AXIS) != 0;
        boolean centred = (present & ANY_CENTRE) != 0;
        boolean round = inForce[MOTION] >= ROUND_BACK;
        boolean further = inForce[WAY] == FURTHER;
        if ((once == DWELL) != has(P)) return 3;
        if (centred && (!round || once != NONE)) return 3;
        if (once == DWELL && named) return 3;
        if ((once == HOME || once == MACHINE || once == SHIFT) && !named) return 3;
        if ((once == HOME || once == MACHINE) && further) return 3;
        if (once == MACHINE && round) return 3;
        if (moves() && inForce[MOTION] != FAST && speed == 0) return 4;
        return 0;
    }

    private boolean moves() {
        int once = inForce[ONCE];
        if (once != NONE && once != MACHINE) return false;
        if ((present & ANY_AXIS) != 0) return true;
        return inForce[MOTION] >= ROUND_BACK && (present & ANY_CENTRE) != 0;
    }

    /** Lays out what a LINE does: 0, or 5 or 6 if it is WRONG by that. */
    private int layLine(int ln) {
        int once = inForce[ONCE];
        motions[ln] = once == HOME ? FAST : inForce[MOTION];
        thirds[ln] = PLANE_YZ - inForce[PLANE];
        paces[ln] = motions[ln] == FAST || speed > fastest ? fastest : speed;
        dwells[ln] = once == DWELL ? given[P] : 0;
        marks[ln] = has(M) ? given[M] : NONE;
        steps[ln] = 0;
        for (int axis = 0; axis < AXES; axis++) {
            rows[(ln + 1) * AXES + axis] = goalOf(ln, axis);
        }
        if (once == SHIFT) shiftOrigin(ln);
        boolean round = motions[ln] >= ROUND_BACK && moves();
        if (!round) return layStraight(ln);
        if (!placeCentre(ln)) return 5;
        return walkRound(ln);
    }

    private int coordinate(int letter) {
        if (!has(letter)) return 0;
        return inForce[SCALE] == BY_FIVE ? 5 * given[letter] : given[letter];
    }

    private int originPlace(int axis) {
        return (inForce[ORIGIN] - FIRST_ORIGIN) * AXES + axis;
    }

    private int goalOf(int ln, int axis) {
        int old = rows[ln * AXES + axis];
        int once = inForce[ONCE];
        if (!has(X + axis) || once == SHIFT) return old;
        if (once == HOME) return 0;
        int told = coordinate(X + axis);
        if (once == MACHINE) return told;
        if (inForce[WAY] == FURTHER) return old + told;
        int place = originPlace(axis);
        return told + origins[place];
    }

    private void shiftOrigin(int ln) {
        for (int axis = 0; axis < AXES; axis++) {
            if (has(X + axis)) {
                int place = originPlace(axis);
                origins[place] = rows[ln * AXES + axis] - coordinate(X + axis);
            }
        }
    }

    /** A straight way stays within the LIMITS if its end does, since its start does. */
    private int layStraight(int ln) {
        int most = 0;
        for (int axis = 0; axis < AXES; axis++) {
            int from = rows[ln * AXES + axis];
            int to = rows[(ln + 1) * AXES + axis];
            if (to < 0 || to > limits[axis]) return 6;
            int far = to < from ? from - to : to - from;
            if (far > most) most = far;
        }
        steps[ln] = most;
        return 0;
    }

    /** Sets where the centre of a ROUND way is: false if the LINE is WRONG by that. */
    private boolean placeCentre(int ln) {
        int third = thirds[ln];
        int first = (third + 1) % AXES;
        int second = (third + 2) % AXES;
        if (!has(I + first) && !has(I + second)) return false;
        if (has(X + third) || has(I + third)) return false;
        int i = coordinate(I + first);
        int j = coordinate(I + second);
        int square = i * i + j * j;
        if (square == 0 || square > MOST_RADIUS * MOST_RADIUS) return false;
        centres[ln * 2] = rows[ln * AXES + first] + i;
        centres[ln * 2 + 1] = rows[ln * AXES + second] + j;
        long u = rows[(ln + 1) * AXES + first] - centres[ln * 2];
        long v = rows[(ln + 1) * AXES + second] - centres[ln * 2 + 1];
        return u * u + v * v == square;
    }

    /** Counts the STEPS of a ROUND way by going it: 0, or 6 if it leaves the LIMITS. */
    private int walkRound(int ln) {
        for (int axis = 0; axis < AXES; axis++) {
            probe[axis] = rows[ln * AXES + axis];
        }
        for (int k = 1; k <= MOST_ROUND_STEPS; k++) {
            stepRound(probe, ln);
            boolean there = true;
            for (int axis = 0; axis < AXES; axis++) {
                if (probe[axis] < 0 || probe[axis] > limits[axis]) return 6;
                if (probe[axis] != rows[(ln + 1) * AXES + axis]) there = false;
            }
            if (there) {
                steps[ln] = k;
                return 0;
            }
        }
        return 6;
    }

    // ---- STEPS ----

    private void stepStraight(int[] place, int ln, int k) {
        int n = steps[ln];
        if (n < 1) return;
        for (int axis = 0; axis < AXES; axis++) {
            int from = rows[ln * AXES + axis];
            int d = rows[(ln + 1) * AXES + axis] - from;
            int size = d < 0 ? -d : d;
            int part = (2 * k * size + n) / (2 * n);
            place[axis] = d < 0 ? from - part : from + part;
        }
    }

    private void stepRound(int[] place, int ln) {
        int first = (thirds[ln] + 1) % AXES;
        int second = (thirds[ln] + 2) % AXES;
        int startU = rows[ln * AXES + first] - centres[ln * 2];
        int startV = rows[ln * AXES + second] - centres[ln * 2 + 1];
        int square = startU * startU + startV * startV;
        int u = place[first] - centres[ln * 2];
        int v = place[second] - centres[ln * 2 + 1];
        boolean on = motions[ln] == ROUND_ON;
        int a = on ? signOf(-v) : signOf(v);
        int b = on ? signOf(u) : signOf(-u);
        int goU = a;
        int goV = b;
        int best = missOf(u + a, v + b, square);
        int miss = missOf(u + a, v, square);
        if (a != 0 && miss < best) {
            goV = 0;
            best = miss;
        }
        miss = missOf(u, v + b, square);
        if (b != 0 && miss < best) {
            goU = 0;
            goV = b;
        }
        place[first] += goU;
        place[second] += goV;
    }

    private int signOf(int n) {
        return n < 0 ? -1 : n > 0 ? 1 : 0;
    }

    private int missOf(int u, int v, int square) {
        int over = u * u + v * v - square;
        return over < 0 ? -over : over;
    }

    // ---- JOINTS ----

    private void findJoints() {
        for (int ln = 0; ln < laid; ln++) {
            int next = joinedTo(ln);
            nexts[ln] = next;
            joints[ln] = next == NONE ? 0 : jointPace(ln, next);
        }
    }

    /** The LINE of the BLOCK that a JOINT ties to the end of this LINE's BLOCK, or NONE. */
    private int joinedTo(int ln) {
        if (steps[ln] == 0 || marks[ln] == PAUSE) return NONE;
        for (int next = ln + 1; next < laid; next++) {
            if (steps[next] > 0) return next;
            if (dwells[next] > 0 || marks[next] == PAUSE) return NONE;
        }
        return NONE;
    }

    private int jointPace(int one, int other) {
        long c = 0;
        long squareP = 0;
        long squareQ = 0;
        for (int axis = 0; axis < AXES; axis++) {
            long p = direction(one, one + 1, axis);
            long q = direction(other, other, axis);
            c += p * q;
            squareP += p * p;
            squareQ += q * q;
        }
        if (c <= 0) return 0;
        int least = paces[one] < paces[other] ? paces[one] : paces[other];
        long m = rootOf(squareP * squareQ);
        if (c >= m) return least;
        long most = bend * c / (m - c);
        return most < least ? (int) most : least;
    }

    /** The DIRECTION of a LINE'S BLOCK on an axis, where the tool is as a row tells. */
    private int direction(int ln, int row, int axis) {
        if (motions[ln] < ROUND_BACK) {
            return rows[(ln + 1) * AXES + axis] - rows[ln * AXES + axis];
        }
        if (axis == thirds[ln]) return 0;
        int first = (thirds[ln] + 1) % AXES;
        int second = (thirds[ln] + 2) % AXES;
        int u = rows[row * AXES + first] - centres[ln * 2];
        int v = rows[row * AXES + second] - centres[ln * 2 + 1];
        int on = axis == first ? -v : u;
        return motions[ln] == ROUND_ON ? on : -on;
    }

    /** The root, rounded down, of a number below 2 to the 60. */
    private long rootOf(long n) {
        long root = 0;
        for (int bit = 29; bit >= 0; bit--) {
            long more = root + (1L << bit);
            if (more * more <= n) root = more;
        }
        return root;
    }

    // ---- running ----

    private boolean hasBlock() {
        return mode == RUNS || mode == TRIPPED;
    }

    /** Begins the first thing from a LINE on that takes ticks or waits. */
    private void beginAt(int from) {
        for (int ln = from; ln < laid; ln++) {
            line = ln;
            if (steps[ln] > 0) {
                mode = RUNS;
                gone = 0;
                return;
            }
            if (dwells[ln] > 0) {
                mode = DWELLS;
                dwellLeft = dwells[ln];
                return;
            }
            if (marks[ln] == PAUSE) {
                restAs(WAITS);
                return;
            }
        }
        restAs(STANDS);
    }

    /** The way or DWELL of the LINE is over. */
    private void endLine() {
        pace = 0;
        if (marks[line] == PAUSE) {
            restAs(WAITS);
        } else {
            beginAt(line + 1);
        }
    }

    private void restAs(int how) {
        mode = how;
        pace = 0;
        holds = false;
    }

    private void tick() {
        ticksInAll++;
        if (mode == RUNS) {
            pace = nextPace();
            goBy(pace);
            // A BLOCK is left at once over a JOINT, so one with nothing left has none at its end.
            if (mode == RUNS && lengthLeft() == 0) endLine();
        } else if (mode == DWELLS && !holds) {
            dwellLeft--;
            if (dwellLeft == 0) endLine();
        }
    }

    private int nextPace() {
        int u = holds ? pace - gain : pace + gain;
        if (u < 0) u = 0;
        if (u > paces[line]) u = paces[line];
        int block = line;
        int far = lengthLeft();
        for (int i = 1; i <= ahead; i++) {
            int w = i == ahead ? 0 : joints[block];
            u = slowedFor(u, far, w);
            block = nexts[block];
            if (block == NONE) break;
            far += steps[block] * STEP_LENGTH;
        }
        return u;
    }

    /** The greatest pace up to u that can still come down to w over a length. */
    private int slowedFor(int u, int far, int w) {
        // What is too fast at one pace is too fast at any above it, so going down finds the greatest.
        for (int slower = u; slower > w; slower--) {
            int count = (slower - w - 1) / gain;
            int braking = count * slower - gain * (count * (count + 1) / 2);
            if (slower + braking <= far) return slower;
        }
        return u < w ? u : w;
    }

    private int lengthLeft() {
        return steps[line] * STEP_LENGTH - gone;
    }

    private void goBy(int length) {
        // Planning never leads beyond an end without JOINT, so nothing is left over there.
        int left = length;
        for (int i = 0; i < MOST_FASTEST && left > 0 && mode == RUNS; i++) {
            int room = STEP_LENGTH - gone % STEP_LENGTH;
            int part = left < room ? left : room;
            gone += part;
            left -= part;
            if (part == room) takeStep();
        }
    }

    private void takeStep() {
        int x = tool[0];
        int y = tool[1];
        int z = tool[2];
        int k = gone / STEP_LENGTH;
        if (motions[line] >= ROUND_BACK) {
            stepRound(tool, line);
        } else {
            stepStraight(tool, line, k);
        }
        stepsInAll++;
        if (cameToSwitch(0, x) || cameToSwitch(1, y) || cameToSwitch(2, z)) {
            restAs(TRIPPED);
        } else if (k == steps[line] && nexts[line] != NONE) {
            line = nexts[line];
            gone = 0;
        }
    }

    private boolean cameToSwitch(int axis, int before) {
        return tool[axis] != before && tool[axis] == switches[axis];
    }
}
