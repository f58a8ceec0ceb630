/** Every call that is refused, or finds nothing: what it answers, and that it changes nothing. */
public final class RefusedTest {
    private static final int LEAST = Integer.MIN_VALUE;
    private static final int MOST = Integer.MAX_VALUE;
    private static final int[] NO_NUMBERS = {-1, 256, 257, -255, LEAST, MOST};

    private static final Scene EMPTY = new Scene(x -> { });
    private static final Scene BUSY = new Scene(RefusedTest::busy);
    private static final Scene STALE = new Scene(RefusedTest::stale);
    private static final Scene FULL_LINE = new Scene(RefusedTest::fullLine);
    private static final Scene TWELVE = new Scene(RefusedTest::twelve);

    private RefusedTest() {
    }

    public static void main(String[] args) {
        scenesAreAsTold();
        joinOfNoNumber();
        joinOfOneThatIsUp();
        joinOfTheThirteenth();
        joinViaNobody();
        leaveOfOneThatIsNotUp();
        beginOfOneThatIsNotUp();
        beginWhileRunning();
        beginOfNoKind();
        beginForNoNumber();
        refreshOfOneThatIsNotUp();
        refreshWhileRunning();
        refreshTooSoon();
        datagramOfNone();
        deliverOfNone();
        dropOfNone();
        lookupOfNone();
        candidateOfNone();
        foundOfNone();
        bucketsOfNone();
        bucketOfNone();
        contactOfNone();
        closestOfNone();
        entryOfNone();
        Due.end();
    }

    /**
     * 1, 100 and 200 are up, 2 has left; each holds entries. 100 has no lookup, the GET of 1 has
     * ended and has found three, 200 looks for 5, and its two FINDs wait.
     */
    private static void busy(Net x) {
        x.join(100, -1);
        int[] announcers = {1, 2, 200};
        for (int p : announcers) {
            Steps.joinAndFind(x, p, 100);
            Steps.announce(x, p, 100);
            x.tick();
        }
        x.begin(1, 1, 100);
        Steps.deliverAll(x);
        x.begin(200, 0, 5);
        x.leave(2);
        x.tick();
    }

    /** Beside that, 100 has a bucket touched 17 ticks ago, but looks for 0; 50 is up for 15. */
    private static void stale(Net x) {
        busy(x);
        Steps.dropAll(x);
        Steps.see(x, 100, 3);
        x.tick();
        x.join(50, -1);
        Steps.silentTicks(x, 15);
        x.begin(100, 0, 0);
    }

    /** Beside that, 22 FINDs of 30 to 100 wait. */
    private static void fullLine(Net x) {
        busy(x);
        Steps.crowd(x, 100, 30, 24);
    }

    /** Beside that, 10, 20, .. 80 have joined. */
    private static void twelve(Net x) {
        busy(x);
        for (int p = 10; p <= 80; p += 10) {
            x.join(p, 100);
        }
    }

    private static void scenesAreAsTold() {
        Due.shows("Promise 12", "0 when it has no lookup, 1 when its lookup is running, 2 when it"
                + " has ended");
        Net x = BUSY.made();
        Due.is("BUSY: lookup(1)", x.lookup(1), 2);
        Due.is("BUSY: lookup(2)", x.lookup(2), -1);
        Due.is("BUSY: lookup(100)", x.lookup(100), 0);
        Due.is("BUSY: lookup(200)", x.lookup(200), 1);
        Due.is("BUSY: waiting()", x.waiting(), 2);
        Due.is("BUSY: clock()", x.clock(), 4);
        Steps.areFound("BUSY", x, 1, 1, 2, 200);
        Due.is("BUSY: entries of 1", x.entry(1, 0) & 65535, 100 + 256 * 2);
        Due.is("BUSY: entries of 100", x.entry(100, 2) & 65535, 100 + 256 * 200);
        Due.is("BUSY: no more of 100", x.entry(100, 3), -1);
        Due.is("BUSY: bucket(1, 0)", x.bucket(1, 0), 256 * 3 + 1024);
        Net y = STALE.made();
        Due.is("STALE: lookup(100)", y.lookup(100), 1);
        Due.is("STALE: bucket(100, 1)", y.bucket(100, 1), 128 + 256 + 1024 * 17);
        Due.is("STALE: bucket(50, 0)", y.bucket(50, 0), 1024 * 15);
        Due.is("STALE: buckets(100)", y.buckets(100), 2);
        Due.is("FULL_LINE: waiting()", FULL_LINE.made().waiting(), 24);
        Net z = TWELVE.made();
        Due.is("TWELVE: lookup(80)", z.lookup(80), 1);
        Due.is("TWELVE: join(2, -1)", z.join(2, -1), true);
    }

    private static int bit(boolean answer) {
        return answer ? 1 : 0;
    }

    private static void refusesJoin(Scene scene, int p, int via) {
        scene.refuses("join(" + p + ", " + via + ")", 0, x -> bit(x.join(p, via)));
    }

    private static void refusesBegin(Scene scene, int p, int kind, int target) {
        scene.refuses("begin(" + p + ", " + kind + ", " + target + ")", 0,
                x -> bit(x.begin(p, kind, target)));
    }

    private static void refusesRefresh(Scene scene, int p) {
        scene.refuses("refresh(" + p + ")", -1, x -> x.refresh(p));
    }

    private static void joinOfNoNumber() {
        Due.shows("Promise 2", "false, refused, when p is no number");
        for (int p : NO_NUMBERS) {
            refusesJoin(EMPTY, p, -1);
            refusesJoin(BUSY, p, -1);
            refusesJoin(BUSY, p, 100);
            refusesJoin(FULL_LINE, p, 100);
        }
    }

    private static void joinOfOneThatIsUp() {
        Due.shows("Promise 2", "false, refused, when p is no number, is up");
        int[] up = {1, 100, 200};
        for (int p : up) {
            refusesJoin(BUSY, p, -1);
            refusesJoin(BUSY, p, 100);
            refusesJoin(BUSY, p, 200);
            refusesJoin(FULL_LINE, p, 30);
            refusesJoin(TWELVE, p, 80);
        }
    }

    private static void joinOfTheThirteenth() {
        Due.shows("Promise 2", "or would be the thirteenth number ever to join");
        int[] others = {0, 3, 101, 255};
        for (int p : others) {
            refusesJoin(TWELVE, p, -1);
            refusesJoin(TWELVE, p, 100);
        }
    }

    private static void joinViaNobody() {
        Due.shows("Promise 2", "or when via is neither -1 nor a peer that is up (so p itself is"
                + " none)");
        int[] vias = {-2, 256, 257, -255, LEAST, MOST, 0, 2, 5, 255};
        for (int via : vias) {
            refusesJoin(BUSY, 5, via);
            refusesJoin(BUSY, 2, via);
        }
        refusesJoin(EMPTY, 0, 0);
        refusesJoin(EMPTY, 0, 1);
        refusesJoin(TWELVE, 2, 2);
        refusesJoin(TWELVE, 2, 3);
    }

    private static void leaveOfOneThatIsNotUp() {
        Due.shows("Promise 3", "false when it is not up");
        for (int p : NO_NUMBERS) {
            refusesLeave(EMPTY, p);
            refusesLeave(BUSY, p);
        }
        int[] numbers = {0, 2, 5, 255};
        for (int p : numbers) {
            refusesLeave(EMPTY, p);
            refusesLeave(BUSY, p);
        }
        refusesLeave(TWELVE, 2);
    }

    private static void refusesLeave(Scene scene, int p) {
        scene.refuses("leave(" + p + ")", 0, x -> bit(x.leave(p)));
    }

    private static void beginOfOneThatIsNotUp() {
        Due.shows("Promise 4", "false, refused, when p is not up");
        for (int p : NO_NUMBERS) {
            refusesBegin(BUSY, p, 0, 10);
        }
        for (int kind = 0; kind <= 2; kind++) {
            refusesBegin(EMPTY, 0, kind, 0);
            refusesBegin(BUSY, 5, kind, 100);
            refusesBegin(BUSY, 2, kind, 100);
        }
    }

    private static void beginWhileRunning() {
        Due.shows("Promise 4", "false, refused, when p is not up, its lookup is running");
        for (int kind = 0; kind <= 2; kind++) {
            refusesBegin(BUSY, 200, kind, 100);
            refusesBegin(STALE, 100, kind, 255);
            refusesBegin(FULL_LINE, 30, kind, 0);
        }
    }

    private static void beginOfNoKind() {
        Due.shows("Promise 4", "the kind is none of these");
        int[] kinds = {-1, 3, 4, 256, LEAST, MOST};
        for (int kind : kinds) {
            refusesBegin(BUSY, 1, kind, 100);
            refusesBegin(BUSY, 100, kind, 0);
        }
    }

    private static void beginForNoNumber() {
        Due.shows("Promise 4", "or the target is no number");
        for (int target : NO_NUMBERS) {
            for (int kind = 0; kind <= 2; kind++) {
                refusesBegin(BUSY, 1, kind, target);
                refusesBegin(BUSY, 100, kind, target);
            }
        }
    }

    private static void refreshOfOneThatIsNotUp() {
        Due.shows("Promise 5", "If p is up .. otherwise -1, refused");
        for (int p : NO_NUMBERS) {
            refusesRefresh(STALE, p);
        }
        refusesRefresh(EMPTY, 0);
        refusesRefresh(STALE, 0);
        refusesRefresh(STALE, 2);
    }

    private static void refreshWhileRunning() {
        Due.shows("Promise 5", "its lookup is not running .. otherwise -1, refused");
        refusesRefresh(STALE, 100);
    }

    private static void refreshTooSoon() {
        Due.shows("Promise 5", "some bucket of its table was touched 16 or more ticks ago .."
                + " otherwise -1, refused");
        refusesRefresh(STALE, 50);
        refusesRefresh(BUSY, 1);
        refusesRefresh(BUSY, 100);
    }

    private static void datagramOfNone() {
        Due.shows("Promise 9", "-1 when there is no such datagram or what is not 0 .. 11");
        int[] places = {-1, -12, 2, 3, 23, 24, LEAST, MOST};
        for (int k : places) {
            EMPTY.refuses("datagram(" + k + ", 3)", -1, x -> x.datagram(k, 3));
            BUSY.refuses("datagram(" + k + ", 0)", -1, x -> x.datagram(k, 0));
        }
        FULL_LINE.refuses("datagram(24, 0)", -1, x -> x.datagram(24, 0));
        FULL_LINE.refuses("datagram(-1, 0)", -1, x -> x.datagram(-1, 0));
        int[] whats = {-1, -12, 12, 13, 24, LEAST, MOST};
        for (int what : whats) {
            BUSY.refuses("datagram(0, " + what + ")", -1, x -> x.datagram(0, what));
            FULL_LINE.refuses("datagram(1, " + what + ")", -1, x -> x.datagram(1, what));
            FULL_LINE.refuses("datagram(24, " + what + ")", -1, x -> x.datagram(24, what));
        }
    }

    private static void deliverOfNone() {
        Due.shows("Promise 10", "-1, refused, when there is no such datagram");
        int[] places = {-1, 2, 3, 23, 24, LEAST, MOST};
        for (int k : places) {
            EMPTY.refuses("deliver(" + k + ")", -1, x -> x.deliver(k));
            BUSY.refuses("deliver(" + k + ")", -1, x -> x.deliver(k));
        }
        EMPTY.refuses("deliver(0)", -1, x -> x.deliver(0));
        FULL_LINE.refuses("deliver(24)", -1, x -> x.deliver(24));
        FULL_LINE.refuses("deliver(-1)", -1, x -> x.deliver(-1));
    }

    private static void dropOfNone() {
        Due.shows("Promise 11", "false when there is no such datagram");
        int[] places = {-1, 2, 3, 23, 24, LEAST, MOST};
        for (int k : places) {
            EMPTY.refuses("drop(" + k + ")", 0, x -> bit(x.drop(k)));
            BUSY.refuses("drop(" + k + ")", 0, x -> bit(x.drop(k)));
        }
        EMPTY.refuses("drop(0)", 0, x -> bit(x.drop(0)));
        FULL_LINE.refuses("drop(24)", 0, x -> bit(x.drop(24)));
        FULL_LINE.refuses("drop(-1)", 0, x -> bit(x.drop(-1)));
    }

    private static void lookupOfNone() {
        Due.shows("Promise 12", "-1 when p is not up (or no peer)");
        for (int p : NO_NUMBERS) {
            BUSY.refuses("lookup(" + p + ")", -1, x -> x.lookup(p));
        }
        EMPTY.refuses("lookup(0)", -1, x -> x.lookup(0));
        BUSY.refuses("lookup(5)", -1, x -> x.lookup(5));
        BUSY.refuses("lookup(2)", -1, x -> x.lookup(2));
    }

    private static void candidateOfNone() {
        Due.shows("Promise 13", "-1 when p is not up, it has no lookup, or there is no such"
                + " candidate");
        for (int p : NO_NUMBERS) {
            BUSY.refuses("candidate(" + p + ", 0)", -1, x -> x.candidate(p, 0));
        }
        EMPTY.refuses("candidate(0, 0)", -1, x -> x.candidate(0, 0));
        BUSY.refuses("candidate(2, 0)", -1, x -> x.candidate(2, 0));
        BUSY.refuses("candidate(100, 0)", -1, x -> x.candidate(100, 0));
        int[] places = {-1, 3, 11, 12, LEAST, MOST};
        for (int j : places) {
            BUSY.refuses("candidate(200, " + j + ")", -1, x -> x.candidate(200, j));
        }
    }

    private static void foundOfNone() {
        Due.shows("Promise 14", "-1 when p is not up, it has no lookup, or it has not found so"
                + " many");
        for (int p : NO_NUMBERS) {
            BUSY.refuses("found(" + p + ", 0)", -1, x -> x.found(p, 0));
        }
        int[] peers = {2, 100, 200};
        for (int p : peers) {
            BUSY.refuses("found(" + p + ", 0)", -1, x -> x.found(p, 0));
        }
        int[] places = {-1, 3, 11, 12, LEAST, MOST};
        for (int j : places) {
            BUSY.refuses("found(1, " + j + ")", -1, x -> x.found(1, j));
        }
    }

    private static void bucketsOfNone() {
        Due.shows("Promise 15", "-1 when p is not up");
        for (int p : NO_NUMBERS) {
            BUSY.refuses("buckets(" + p + ")", -1, x -> x.buckets(p));
        }
        BUSY.refuses("buckets(2)", -1, x -> x.buckets(2));
        BUSY.refuses("buckets(5)", -1, x -> x.buckets(5));
    }

    private static void bucketOfNone() {
        Due.shows("Promise 16", "-1 when p is not up or there is no such bucket");
        for (int p : NO_NUMBERS) {
            BUSY.refuses("bucket(" + p + ", 0)", -1, x -> x.bucket(p, 0));
        }
        BUSY.refuses("bucket(2, 0)", -1, x -> x.bucket(2, 0));
        int[] places = {-1, 2, 8, 9, LEAST, MOST};
        for (int b : places) {
            STALE.refuses("bucket(100, " + b + ")", -1, x -> x.bucket(100, b));
        }
        BUSY.refuses("bucket(1, 1)", -1, x -> x.bucket(1, 1));
    }

    private static void contactOfNone() {
        Due.shows("Promise 17", "-1 when p is not up or there is no such bucket or contact");
        for (int p : NO_NUMBERS) {
            BUSY.refuses("contact(" + p + ", 0, 0)", -1, x -> x.contact(p, 0, 0));
        }
        BUSY.refuses("contact(2, 0, 0)", -1, x -> x.contact(2, 0, 0));
        BUSY.refuses("contact(1, 0, 3)", -1, x -> x.contact(1, 0, 3));
        BUSY.refuses("contact(1, 1, 0)", -1, x -> x.contact(1, 1, 0));
        int[] places = {-1, 2, 3, 8, 9, LEAST, MOST};
        for (int i : places) {
            STALE.refuses("contact(100, " + i + ", 0)", -1, x -> x.contact(100, i, 0));
            STALE.refuses("contact(100, 1, " + i + ")", -1, x -> x.contact(100, 1, i));
        }
    }

    private static void closestOfNone() {
        Due.shows("Promise 18", "-1 when p is not up, the target is no number, j is not 0 .. 2,"
                + " or there are not so many contacts");
        for (int n : NO_NUMBERS) {
            BUSY.refuses("closest(" + n + ", 0, 0)", -1, x -> x.closest(n, 0, 0));
            BUSY.refuses("closest(1, " + n + ", 0)", -1, x -> x.closest(1, n, 0));
        }
        int[] places = {-1, 3, 4, LEAST, MOST};
        for (int j : places) {
            STALE.refuses("closest(100, 0, " + j + ")", -1, x -> x.closest(100, 0, j));
        }
        STALE.refuses("closest(50, 0, 0)", -1, x -> x.closest(50, 0, 0));
        BUSY.refuses("closest(2, 0, 0)", -1, x -> x.closest(2, 0, 0));
    }

    private static void entryOfNone() {
        Due.shows("Promise 19", "-1 when p is not up or there is no such entry");
        for (int p : NO_NUMBERS) {
            BUSY.refuses("entry(" + p + ", 0)", -1, x -> x.entry(p, 0));
        }
        BUSY.refuses("entry(2, 0)", -1, x -> x.entry(2, 0));
        STALE.refuses("entry(50, 0)", -1, x -> x.entry(50, 0));
        int[] places = {-1, 3, 5, 6, LEAST, MOST};
        for (int j : places) {
            BUSY.refuses("entry(100, " + j + ")", -1, x -> x.entry(100, j));
        }
    }
}
