/**
 * Promises 6 and 19 at what no run of calls can bring about, though the document's words hold
 * there too: a token of epoch 0, which no peer ever gives, and a candidate that is ASKED for more
 * than 4 ticks. Both are put into the object behind its back.
 */
public final class BeyondRunsTest {
    private static final int OF_EPOCH_BELOW = 20185;
    private static final int OF_EPOCH_0 = 9912;
    private static final int OF_EPOCH_1 = 40200;
    private static final int ADDED = 9 + 256 * 1 + 65536 * 24;
    private static final int ASKED_AT = 150;

    private BeyondRunsTest() {
    }

    public static void main(String[] args) throws IllegalAccessException {
        epochNought();
        moreThanFourTicksAgo();
        Due.end();
    }

    private static void epochNought() throws IllegalAccessException {
        Due.shows("Promise 19", "or in the epoch now less 1 (0 too is taken for e there)");
        Due.is("epoch 1, token of 1", entryAfter(7, OF_EPOCH_1), ADDED);
        Due.is("epoch 1, token of 0", entryAfter(0, OF_EPOCH_0), ADDED);
        Due.is("epoch 1 still, token of 0", entryAfter(7, OF_EPOCH_0), ADDED);
        Due.is("epoch 1, token of the one below 0", entryAfter(0, OF_EPOCH_BELOW), -1);
        Due.is("epoch 2, token of 0", entryAfter(8, OF_EPOCH_0), -1);
    }

    /** 0 and 1 know one another. */
    private static XorOverlay two() {
        XorOverlay x = new XorOverlay();
        x.join(0, -1);
        x.join(1, 0);
        x.deliver(0);
        x.deliver(0);
        return x;
    }

    private static void ticks(XorOverlay x, int count) {
        for (int i = 0; i < count; i++) {
            x.tick();
        }
    }

    /** What 0 holds when the STORE of 1 arrives after so many ticks with this token. */
    private static int entryAfter(int ticks, int token) throws IllegalAccessException {
        XorOverlay x = two();
        x.begin(1, 2, 9);
        x.deliver(0);
        x.deliver(0);
        Due.is("a STORE waits: datagram(0, 0)", x.datagram(0, 0), 3);
        Due.is("with its token: datagram(0, 5)", x.datagram(0, 5), OF_EPOCH_1);
        Inside.replace(x, OF_EPOCH_1, token);
        Due.is("with another token: datagram(0, 5)", x.datagram(0, 5), token);
        ticks(x, ticks);
        x.deliver(0);
        return x.entry(0, 0);
    }

    private static void moreThanFourTicksAgo() throws IllegalAccessException {
        Due.shows("Promise 6", "each candidate that is ASKED and was asked 4 or more ticks ago"
                + " becomes FAILED");
        for (int ago = 2; ago <= 9; ago++) {
            XorOverlay x = two();
            ticks(x, ASKED_AT);
            x.begin(0, 0, 9);
            x.begin(1, 0, 9);
            x.tick();
            // Nothing else inside is that great by now: what is replaced is CLOCK alone.
            Inside.replace(x, ASKED_AT + 1, ASKED_AT + ago - 1);
            Due.is(ago + " ticks ago: tick()", x.tick(), ago < 4 ? 0 : 2);
            Due.is(ago + " ticks ago: clock()", x.clock(), ASKED_AT + ago);
            int due = ago < 4 ? 1 : 3;
            Due.is(ago + " ticks ago: candidate(0, 0)", x.candidate(0, 0), 1 + 256 * due);
            Due.is(ago + " ticks ago: candidate(1, 0)", x.candidate(1, 0), 0 + 256 * due);
            Due.is(ago + " ticks ago: contact(0, 0, 0)", x.contact(0, 0, 0), ago < 4 ? 1 : 257);
        }
    }
}
