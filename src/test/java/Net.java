/**
 * The object that a test looks at, with its calls counted: nothing is promised about what the
 * 513th call answers, so no test may rest on it.
 */
final class Net {
    static final int CALLS = 512;

    private final XorOverlay real = new XorOverlay();
    private int calls = 0;

    boolean join(int p, int via) {
        return counted().join(p, via);
    }

    boolean leave(int p) {
        return counted().leave(p);
    }

    boolean begin(int p, int kind, int target) {
        return counted().begin(p, kind, target);
    }

    int refresh(int p) {
        return counted().refresh(p);
    }

    int tick() {
        return counted().tick();
    }

    int clock() {
        return counted().clock();
    }

    int waiting() {
        return counted().waiting();
    }

    int datagram(int k, int what) {
        return counted().datagram(k, what);
    }

    int deliver(int k) {
        return counted().deliver(k);
    }

    boolean drop(int k) {
        return counted().drop(k);
    }

    int lookup(int p) {
        return counted().lookup(p);
    }

    int candidate(int p, int j) {
        return counted().candidate(p, j);
    }

    int found(int p, int j) {
        return counted().found(p, j);
    }

    int buckets(int p) {
        return counted().buckets(p);
    }

    int bucket(int p, int b) {
        return counted().bucket(p, b);
    }

    int contact(int p, int b, int j) {
        return counted().contact(p, b, j);
    }

    int closest(int p, int target, int j) {
        return counted().closest(p, target, j);
    }

    int entry(int p, int j) {
        return counted().entry(p, j);
    }

    private XorOverlay counted() {
        calls++;
        if (calls == CALLS + 1) {
            Due.is("how many calls a test makes on one object", calls, CALLS);
        }
        return real;
    }
}
