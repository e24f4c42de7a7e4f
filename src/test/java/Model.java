import java.util.ArrayList;
import java.util.HashSet;
import java.util.List;
import java.util.Set;

/** The document once more, in its plainest form: every STEP is listed, every pace is tried. */
final class Model {
    /** What takes ticks or waits: a BLOCK (points), a DWELL (ticks) or a PAUSE (neither). */
    private static final class Thing {
        int line;
        List<int[]> points;
        int ticks;
        int pace;
        long[] out;
        long[] in;
    }

    private final List<List<int[]>> program = new ArrayList<>();
    private final int[] settings = {1000, 1000, 1000, 800, 20, 400, 3};
    private final int[] tool = new int[3];
    private final int[] trips = {-1, -1, -1};
    private int[] begin = new int[3];

    private List<Thing> things = new ArrayList<>();
    private List<int[]> behind = new ArrayList<>();
    private int now;
    private int mode;
    private boolean holds;
    private int pace;
    private int gone;
    private int left;
    private int steps;
    private int ticks;

    // The LINE that is being read.
    private int motion;
    private int plane;
    private int scale;
    private int way;
    private int origin;
    private int speed;
    private int[][] origins;

    boolean clear() {
        if (mode != 0) return false;
        program.clear();
        return true;
    }

    int word(boolean fresh, int letter, int value) {
        if (mode != 0 || letter < 0 || letter > 9 || Math.abs((long) value) > 3000) return -1;
        if (!fresh && program.isEmpty()) return -1;
        if (fresh && program.size() == 30) return -2;
        if (!fresh && program.get(program.size() - 1).size() == 8) return -2;
        if (fresh) program.add(new ArrayList<>());
        List<int[]> last = program.get(program.size() - 1);
        last.add(new int[] {letter, value});
        return last.size();
    }

    boolean set(int what, int v) {
        int[] least = {1, 1, 1, 1, 1, 0, 1};
        int[] most = {1000, 1000, 1000, 2000, 200, 2000, 6};
        if (mode != 0 || what < 0 || what > 6 || v < least[what] || v > most[what]) return false;
        if (what < 3 && v < tool[what]) return false;
        settings[what] = v;
        return true;
    }

    int check() {
        return read(new ArrayList<>(), new ArrayList<>());
    }

    boolean start() {
        List<Thing> all = new ArrayList<>();
        if (mode != 0 || program.isEmpty() || read(all, new ArrayList<>()) != 0) return false;
        begin = tool.clone();
        things = all;
        now = -1;
        next();
        return true;
    }

    int advance(int n) {
        if (n < 0 || n > 3000) return -1;
        int before = steps;
        for (int i = 0; i < n; i++) {
            ticks++;
            if (mode == 1) run();
            else if (mode == 2 && !holds && --left == 0) next();
        }
        return steps - before;
    }

    boolean hold() {
        if (holds || mode == 0 || mode == 3 || mode == 4) return false;
        holds = true;
        return true;
    }

    boolean resume() {
        if (mode == 3) {
            next();
            return true;
        }
        boolean did = holds;
        holds = false;
        return did;
    }

    boolean stop() {
        if (mode == 0) return false;
        become(0);
        return true;
    }

    boolean trip(int axis, int at) {
        if (axis < 0 || axis > 2 || at < -1 || at > 1000) return false;
        trips[axis] = at;
        return true;
    }

    int at(int axis) {
        return axis < 0 || axis > 2 ? -1 : tool[axis];
    }

    int state(int what) {
        boolean block = mode == 1 || mode == 4;
        int done = block ? gone / 1000 : 0;
        int[] all = {mode, holds ? 1 : 0, pace, mode == 0 ? -1 : things.get(now).line, done,
            block ? things.get(now).points.size() - 1 - done : 0, mode == 2 ? left : 0, steps, ticks};
        return what < 0 || what > 8 ? -1 : all[what];
    }

    int after(int line, int axis) {
        behind = new ArrayList<>();
        read(new ArrayList<>(), behind);
        if (axis < 0 || axis > 2 || line < 0 || line >= behind.size()) return -1;
        return behind.get(line)[axis];
    }

    int joint(int k) {
        if (k < 0 || k > 5 || mode != 1 && mode != 4) return -1;
        for (int i = 0; i <= k; i++) {
            if (!tied(now + i)) return 0;
        }
        return jointPace(now + k);
    }

    // ---- running ----

    private void become(int how) {
        mode = how;
        pace = 0;
        holds = false;
    }

    private void next() {
        pace = 0;
        now++;
        gone = 0;
        if (now == things.size()) {
            become(0);
        } else if (things.get(now).points != null) {
            mode = 1;
        } else if (things.get(now).ticks > 0) {
            mode = 2;
            left = things.get(now).ticks;
        } else {
            become(3);
        }
    }

    private boolean tied(int i) {
        return i + 1 < things.size() && things.get(i).points != null && things.get(i + 1).points != null;
    }

    private int jointPace(int i) {
        Thing one = things.get(i);
        Thing other = things.get(i + 1);
        long c = 0;
        long pp = 0;
        long qq = 0;
        for (int axis = 0; axis < 3; axis++) {
            c += one.in[axis] * other.out[axis];
            pp += one.in[axis] * one.in[axis];
            qq += other.out[axis] * other.out[axis];
        }
        long m = (long) Math.sqrt((double) (pp * qq));
        while (m * m > pp * qq) m--;
        while ((m + 1) * (m + 1) <= pp * qq) m++;
        long w = Math.min(one.pace, other.pace);
        if (c <= 0) return 0;
        if (c < m) w = Math.min(w, settings[5] * c / (m - c));
        return (int) w;
    }

    private void run() {
        int u = holds ? Math.max(pace - settings[4], 0) : pace + settings[4];
        u = Math.min(u, things.get(now).pace);
        while (!fits(u)) u--;
        pace = u;
        for (int i = 0; i < u; i++) {
            gone++;
            if (gone % 1000 != 0) continue;
            List<int[]> points = things.get(now).points;
            int[] to = points.get(gone / 1000);
            boolean tripped = false;
            for (int axis = 0; axis < 3; axis++) {
                tripped |= tool[axis] != to[axis] && to[axis] == trips[axis];
                tool[axis] = to[axis];
            }
            steps++;
            if (tripped) {
                become(4);
                return;
            }
            if (gone / 1000 == points.size() - 1) {
                if (!tied(now)) {
                    if (i != u - 1) throw new IllegalStateException("gone beyond an end without JOINT");
                    next();
                    return;
                }
                now++;
                gone = 0;
            }
        }
    }

    private boolean fits(int u) {
        int r = -gone;
        for (int e = 0; e < settings[6]; e++) {
            r += (things.get(now + e).points.size() - 1) * 1000;
            boolean last = e == settings[6] - 1 || !tied(now + e);
            int w = last ? 0 : jointPace(now + e);
            int d = 0;
            for (int x = u - settings[4]; x > w; x -= settings[4]) d += x;
            if (u > w && u + d > r) return false;
            if (last) break;
        }
        return true;
    }

    // ---- reading ----

    private int read(List<Thing> all, List<int[]> places) {
        motion = 0;
        plane = 17;
        scale = 1;
        way = 90;
        origin = 0;
        speed = 0;
        origins = new int[2][3];
        int[] place = (mode == 0 ? tool : begin).clone();
        for (int i = 0; i < program.size(); i++) {
            int why = readLine(i, place, all);
            if (why != 0) return 10 * i + why;
            places.add(place.clone());
            for (int[] w : program.get(i)) {
                if (w[0] == 1 && w[1] == 2) return 0;
            }
        }
        return 0;
    }

    private static String group(int g) {
        switch (g) {
            case 0: case 1: case 2: case 3: return "MOTION";
            case 17: case 18: case 19: return "PLANE";
            case 20: case 21: return "SCALE";
            case 90: case 91: return "WAY";
            case 54: case 55: return "ORIGIN";
            case 4: case 28: case 53: case 92: return "ONCE";
            default: return "";
        }
    }

    private int readLine(int line, int[] place, List<Thing> all) {
        List<int[]> words = program.get(line);
        for (int[] w : words) {
            if (w[0] == 0 && group(w[1]).isEmpty()) return 1;
            if (w[0] == 1 && w[1] != 0 && w[1] != 2) return 1;
            if (w[0] == 8 && (w[1] < 1 || w[1] > 1000)) return 1;
            if (w[0] == 9 && (w[1] < 0 || w[1] > 1000)) return 1;
        }
        Set<String> seen = new HashSet<>();
        Integer[] has = new Integer[10];
        int once = -1;
        for (int[] w : words) {
            if (!seen.add(w[0] == 0 ? group(w[1]) : "letter " + w[0])) return 2;
            if (w[0] != 0) has[w[0]] = w[1];
            else if (group(w[1]).equals("ONCE")) once = w[1];
            else put(w[1]);
        }
        if (has[8] != null) speed = has[8];
        boolean axes = has[2] != null || has[3] != null || has[4] != null;
        boolean ijk = has[5] != null || has[6] != null || has[7] != null;
        boolean round = motion > 1;
        if (once == 4 && has[9] == null || once != 4 && has[9] != null) return 3;
        if (ijk && !round || ijk && once != -1) return 3;
        if (axes && once == 4 || !axes && (once == 28 || once == 53 || once == 92)) return 3;
        if (way == 91 && (once == 28 || once == 53) || once == 53 && round) return 3;
        boolean moves = (once == -1 || once == 53) && (axes || round && ijk);
        if (moves && motion != 0 && speed == 0) return 4;
        if (once == 4 && has[9] > 0) add(all, line, null).ticks = has[9];
        if (once == 92) {
            for (int a = 0; a < 3; a++) {
                if (has[2 + a] != null) origins[origin][a] = place[a] - has[2 + a] * scale;
            }
        }
        if (moves || once == 28) {
            int[] to = goal(place, has, once);
            int why = motion > 1 && once != 28 ? round(line, place, to, has, all)
                : straight(line, place, to, once == 28 ? 0 : motion, all);
            if (why != 0) return why;
            System.arraycopy(to, 0, place, 0, 3);
        }
        if (has[1] != null && has[1] == 0) add(all, line, null);
        return 0;
    }

    private void put(int g) {
        if (g <= 3) motion = g;
        else if (g <= 19) plane = g;
        else if (g <= 21) scale = g == 20 ? 5 : 1;
        else if (g <= 55) origin = g - 54;
        else way = g;
    }

    private int[] goal(int[] place, Integer[] has, int once) {
        int[] to = place.clone();
        for (int a = 0; a < 3; a++) {
            if (has[2 + a] == null) continue;
            int c = has[2 + a] * scale;
            if (once == 28) to[a] = 0;
            else if (once == 53) to[a] = c;
            else if (way == 91) to[a] += c;
            else to[a] = c + origins[origin][a];
        }
        return to;
    }

    private static Thing add(List<Thing> all, int line, List<int[]> points) {
        Thing t = new Thing();
        t.line = line;
        t.points = points;
        all.add(t);
        return t;
    }

    private boolean outside(int[] p) {
        for (int a = 0; a < 3; a++) {
            if (p[a] < 0 || p[a] > settings[a]) return true;
        }
        return false;
    }

    private int straight(int line, int[] from, int[] to, int how, List<Thing> all) {
        int n = 0;
        for (int a = 0; a < 3; a++) n = Math.max(n, Math.abs(to[a] - from[a]));
        if (n == 0) return 0;
        List<int[]> points = new ArrayList<>();
        for (int k = 0; k <= n; k++) {
            int[] p = new int[3];
            for (int a = 0; a < 3; a++) {
                long d = to[a] - from[a];
                p[a] = from[a] + (int) (Long.signum(d) * ((2L * k * Math.abs(d) + n) / (2L * n)));
            }
            if (outside(p)) return 6;
            points.add(p);
        }
        Thing t = add(all, line, points);
        t.pace = how == 0 ? settings[3] : Math.min(settings[3], speed);
        t.out = new long[] {to[0] - from[0], to[1] - from[1], to[2] - from[2]};
        t.in = t.out;
        return 0;
    }

    private int round(int line, int[] from, int[] to, Integer[] has, List<Thing> all) {
        int f = plane == 17 ? 0 : plane == 18 ? 2 : 1;
        int s = plane == 17 ? 1 : plane == 18 ? 0 : 2;
        int t = 3 - f - s;
        if (has[5 + f] == null && has[5 + s] == null) return 5;
        if (has[2 + t] != null || has[5 + t] != null) return 5;
        long cf = from[f] + (has[5 + f] == null ? 0 : has[5 + f] * scale);
        long cs = from[s] + (has[5 + s] == null ? 0 : has[5 + s] * scale);
        long square = (from[f] - cf) * (from[f] - cf) + (from[s] - cs) * (from[s] - cs);
        if (square == 0 || square > 90000) return 5;
        if ((to[f] - cf) * (to[f] - cf) + (to[s] - cs) * (to[s] - cs) != square) return 5;
        List<int[]> points = new ArrayList<>();
        points.add(from.clone());
        int[] p = from.clone();
        do {
            long[] dir = direction(p[f] - cf, p[s] - cs);
            int a = Long.signum(dir[0]);
            int b = Long.signum(dir[1]);
            int[][] tries = {{a, b}, {a, 0}, {0, b}};
            int[] best = null;
            long nearest = Long.MAX_VALUE;
            for (int[] go : tries) {
                if (go[0] == 0 && go[1] == 0) continue;
                long u = p[f] + go[0] - cf;
                long v = p[s] + go[1] - cs;
                long miss = Math.abs(u * u + v * v - square);
                if (miss < nearest) {
                    nearest = miss;
                    best = go;
                }
            }
            p[f] += best[0];
            p[s] += best[1];
            if (outside(p)) return 6;
            points.add(p.clone());
        } while (p[f] != to[f] || p[s] != to[s]);
        Thing thing = add(all, line, points);
        thing.pace = Math.min(settings[3], speed);
        thing.out = new long[3];
        thing.in = new long[3];
        long[] first = direction(from[f] - cf, from[s] - cs);
        long[] last = direction(to[f] - cf, to[s] - cs);
        thing.out[f] = first[0];
        thing.out[s] = first[1];
        thing.in[f] = last[0];
        thing.in[s] = last[1];
        return 0;
    }

    private long[] direction(long u, long v) {
        return motion == 3 ? new long[] {-v, u} : new long[] {v, -u};
    }
}
