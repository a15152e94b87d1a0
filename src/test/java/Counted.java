/**
 * StockEvents with its calls counted. The document promises nothing beyond the 512th call of an object, so a test
 * that goes beyond it tells nothing: it fails here.
 */
final class Counted {
    static final int CALLS_MOST = 512;

    /** Thrown in place of a call too many. */
    static final class Over extends RuntimeException {
        private static final long serialVersionUID = 1L;

        Over() {
            super("a test calls one object more than " + CALLS_MOST + " times");
        }
    }

    private final StockEvents x = new StockEvents();
    private int calls;

    int calls() {
        return calls;
    }

    private StockEvents called() {
        calls++;
        if (calls > CALLS_MOST) {
            throw new Over();
        }
        return x;
    }

    int feed(int letter) {
        return called().feed(letter);
    }

    int ask(int stream, int expected, int number) {
        return called().ask(stream, expected, number);
    }

    int batch() {
        return called().batch();
    }

    int upcast() {
        return called().upcast();
    }

    int state(int stream, int what) {
        return called().state(stream, what);
    }

    int at(int stream, int version, int what) {
        return called().at(stream, version, what);
    }

    int steps(int stream, int version) {
        return called().steps(stream, version);
    }

    int snap(int stream) {
        return called().snap(stream);
    }

    int snaps(int stream, int what) {
        return called().snaps(stream, what);
    }

    int every(int n) {
        return called().every(n);
    }

    int event(int position, int what) {
        return called().event(position, what);
    }

    int text(int position, int i) {
        return called().text(position, i);
    }

    int find(int stream, int version) {
        return called().find(stream, version);
    }

    long worth(int position) {
        return called().worth(position);
    }

    int project(int p) {
        return called().project(p);
    }

    int rebuild(int p) {
        return called().rebuild(p);
    }

    int deliver(int p, int which, int from, int n) {
        return called().deliver(p, which, from, n);
    }

    int swap(int p) {
        return called().swap(p);
    }

    int look(int p, int which, int what) {
        return called().look(p, which, what);
    }

    int row(int p, int which, int key) {
        return called().row(p, which, key);
    }

    int policy(int p) {
        return called().policy(p);
    }

    int run(int p, int n) {
        return called().run(p, n);
    }

    int policyOf(int p, int what) {
        return called().policyOf(p, what);
    }

    int see(int client, int stream) {
        return called().see(client, stream);
    }

    int harmless() {
        return called().harmless();
    }

    int attempt(int client, int harmless) {
        return called().attempt(client, harmless);
    }

    int watch(int stream, int what) {
        return called().watch(stream, what);
    }

    long foresee(int stream, int what) {
        return called().foresee(stream, what);
    }

    int tally(int kind, int from, int to, int what) {
        return called().tally(kind, from, to, what);
    }

    long digest(int position) {
        return called().digest(position);
    }

    int image() {
        return called().image();
    }

    int back() {
        return called().back();
    }

    int led(int what) {
        return called().led(what);
    }

    int count(int what) {
        return called().count(what);
    }
}
