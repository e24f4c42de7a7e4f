/** A MillDesk for tests: it sees to it that no test leans on an object behind its 512th call. */
final class Desk {
    static final int MOST_CALLS = 512;

    private final MillDesk mill = new MillDesk();
    private int calls = 0;

    int calls() {
        return calls;
    }

    private MillDesk called() {
        calls++;
        if (calls == MOST_CALLS + 1) Due.is("calls of one object in a test", calls, MOST_CALLS);
        return mill;
    }

    boolean clear() {
        return called().clear();
    }

    int word(boolean fresh, int letter, int value) {
        return called().word(fresh, letter, value);
    }

    boolean set(int what, int v) {
        return called().set(what, v);
    }

    int check() {
        return called().check();
    }

    boolean start() {
        return called().start();
    }

    int advance(int n) {
        return called().advance(n);
    }

    boolean hold() {
        return called().hold();
    }

    boolean resume() {
        return called().resume();
    }

    boolean stop() {
        return called().stop();
    }

    boolean trip(int axis, int at) {
        return called().trip(axis, at);
    }

    int at(int axis) {
        return called().at(axis);
    }

    int state(int what) {
        return called().state(what);
    }

    int after(int line, int axis) {
        return called().after(line, axis);
    }

    int joint(int k) {
        return called().joint(k);
    }
}
