/** Promise 19 (entry), and what DELIVERY of a STORE and a TICK do to entries. */
public final class EntriesTest {
    private static final int TICK = 65536;

    private EntriesTest() {
    }

    public static void main(String[] args) {
        entryLastsTwentyFour();
        storeAgainLengthens();
        tokenOfTheEpochBefore();
        tokenTooOld();
        sixAtMost();
        othersMoveUp();
        holdersAreThree();
        entryIsRefused();
        Due.end();
    }

    /** 1 knows 0, and no lookup runs. */
    private static Net pair() {
        Net x = new Net();
        x.join(0, -1);
        x.join(1, 0);
        Steps.deliverAll(x);
        return x;
    }

    private static void announce(Net x, int p, int key) {
        x.begin(p, 2, key);
        Steps.deliverAll(x);
    }

    /** p's ANNOUNCE has ended, and its one STORE waits alone. */
    private static void announceUpToStore(Net x, int p, int key) {
        x.begin(p, 2, key);
        x.deliver(0);
        x.deliver(0);
    }

    private static void entryLastsTwentyFour() {
        Net x = pair();
        Steps.ticks(x, 5);
        announce(x, 1, 255);
        Due.is("lasts: entry(0, 0)", x.entry(0, 0), 255 + 256 + 24 * TICK);
        Due.is("lasts: entry(0, 1)", x.entry(0, 1), -1);
        Due.is("lasts: the holder keeps none", x.entry(1, 0), -1);
        for (int left = 23; left >= 1; left--) {
            x.tick();
            Due.is("lasts: entry(0, 0)", x.entry(0, 0), 255 + 256 + left * TICK);
        }
        x.tick();
        Due.is("is gone: entry(0, 0)", x.entry(0, 0), -1);
        announce(x, 1, 0);
        Due.is("another: entry(0, 0)", x.entry(0, 0), 256 + 24 * TICK);
    }

    private static void storeAgainLengthens() {
        Net x = pair();
        announce(x, 1, 9);
        announce(x, 1, 8);
        Steps.ticks(x, 10);
        announce(x, 1, 9);
        Due.is("again: entry(0, 0)", x.entry(0, 0), 9 + 256 + 24 * TICK);
        Due.is("again: entry(0, 1)", x.entry(0, 1), 8 + 256 + 14 * TICK);
        Due.is("again: entry(0, 2)", x.entry(0, 2), -1);
        x.join(2, 0);
        Steps.deliverAll(x);
        announce(x, 2, 9);
        Due.is("of another holder: entry(0, 2)", x.entry(0, 2), 9 + 512 + 24 * TICK);
        Steps.ticks(x, 14);
        Due.is("later: entry(0, 0)", x.entry(0, 0), 9 + 256 + 10 * TICK);
        Due.is("later: entry(0, 1)", x.entry(0, 1), 9 + 512 + 10 * TICK);
    }

    private static void tokenOfTheEpochBefore() {
        Net x = pair();
        announceUpToStore(x, 1, 9);
        Steps.ticks(x, 15);
        Due.is("the epoch before: deliver(0)", x.deliver(0), 1);
        Due.is("the epoch before: entry(0, 0)", x.entry(0, 0), 9 + 256 + 24 * TICK);
        Net y = pair();
        Steps.ticks(y, 7);
        announceUpToStore(y, 1, 9);
        y.tick();
        y.deliver(0);
        Due.is("clock 8: entry(0, 0)", y.entry(0, 0), 9 + 256 + 24 * TICK);
    }

    private static void tokenTooOld() {
        Net x = pair();
        announceUpToStore(x, 1, 9);
        Steps.ticks(x, 16);
        Due.is("two epochs before: deliver(0)", x.deliver(0), 1);
        Due.is("two epochs before: entry(0, 0)", x.entry(0, 0), -1);
        announce(x, 1, 9);
        announceUpToStore(x, 1, 9);
        Steps.ticks(x, 16);
        x.deliver(0);
        Due.is("nor is one lengthened: entry(0, 0)", x.entry(0, 0), 9 + 256 + 8 * TICK);
    }

    private static void sixAtMost() {
        Net x = pair();
        for (int key = 10; key <= 16; key++) {
            announce(x, 1, key);
        }
        Due.is("six: entry(0, 5)", x.entry(0, 5), 15 + 256 + 24 * TICK);
        Due.is("six: entry(0, 6)", x.entry(0, 6), -1);
        Steps.ticks(x, 4);
        announce(x, 1, 15);
        announce(x, 1, 10);
        Due.is("six: the first is lengthened", x.entry(0, 0), 10 + 256 + 24 * TICK);
        Due.is("six: the second is not", x.entry(0, 1), 11 + 256 + 20 * TICK);
        Due.is("six: the last is lengthened", x.entry(0, 5), 15 + 256 + 24 * TICK);
        Steps.ticks(x, 20);
        Due.is("two left: entry(0, 1)", x.entry(0, 1), 15 + 256 + 4 * TICK);
        Due.is("two left: entry(0, 2)", x.entry(0, 2), -1);
        announce(x, 1, 16);
        Due.is("room again: entry(0, 2)", x.entry(0, 2), 16 + 256 + 24 * TICK);
    }

    private static void othersMoveUp() {
        Net x = pair();
        for (int i = 0; i < 3; i++) {
            announce(x, 1, 20 + i);
            x.tick();
        }
        Due.is("three: entry(0, 0)", x.entry(0, 0), 20 + 256 + 21 * TICK);
        Steps.ticks(x, 21);
        Due.is("two: entry(0, 0)", x.entry(0, 0), 21 + 256 + TICK);
        Due.is("two: entry(0, 1)", x.entry(0, 1), 22 + 256 + 2 * TICK);
        Due.is("two: entry(0, 2)", x.entry(0, 2), -1);
        Steps.ticks(x, 2);
        Due.is("none: entry(0, 0)", x.entry(0, 0), -1);
    }

    private static void holdersAreThree() {
        Net x = new Net();
        x.join(0, -1);
        int[] announcers = {4, 3, 2, 1};
        for (int p : announcers) {
            x.join(p, 0);
            Steps.deliverAll(x);
            announce(x, p, 77);
        }
        Due.is("four holders: entry(0, 3)", x.entry(0, 3), 77 + 256 + 24 * TICK);
        x.leave(4);
        x.join(4, 0);
        Steps.silentTicks(x, 4);
        x.begin(4, 1, 77);
        x.deliver(0);
        Due.is("holders: first", x.datagram(0, 9), 4);
        Due.is("holders: second", x.datagram(0, 10), 3);
        Due.is("holders: third", x.datagram(0, 11), 2);
        x.deliver(0);
        Steps.areFound("holders", x, 4, 4, 3, 2);
    }

    private static void entryIsRefused() {
        Net x = pair();
        announce(x, 1, 9);
        int[] wrong = {-1, 1, 6, 7, Integer.MIN_VALUE, Integer.MAX_VALUE};
        for (int j : wrong) {
            Due.is("entry(0, " + j + ")", x.entry(0, j), -1);
        }
        int[] wrongPeers = {-1, 2, 256, Integer.MIN_VALUE, Integer.MAX_VALUE};
        for (int p : wrongPeers) {
            Due.is("entry(" + p + ", 0)", x.entry(p, 0), -1);
        }
        x.leave(0);
        Due.is("left: entry(0, 0)", x.entry(0, 0), -1);
    }
}
