/** Every call that is refused, or finds nothing: what it answers, and that it changes nothing. */
public final class RefusedTest {
    private static final int LEAST = Integer.MIN_VALUE;
    private static final int MOST = Integer.MAX_VALUE;
    private static final int[] NO_NUMBERS = {-1, 256, 266, -246, LEAST, MOST};

    private static final Scene EMPTY = new Scene(x -> { });
    private static final Scene RUNNING = new Scene(RefusedTest::running);
    private static final Scene BUSY = new Scene(RefusedTest::busy);
    private static final Scene STALE = new Scene(RefusedTest::stale);
    private static final Scene FULL_LINE = new Scene(RefusedTest::fullLine);
    private static final Scene TWELVE = new Scene(RefusedTest::twelve);

    private RefusedTest() {
    }

    public static void main(String[] args) {
        joinOfNoNumber();
        joinOfOneThatIsUp();
        joinOfTheThirteenth();
        joinViaNobody();
        leaveOfOneThatIsNotUp();
        beginOfOneThatIsNotUp();
        beginWhileRunning();
        beginOfNoKind();
        beginForNoNumber();
        refreshOfOneThatIsNotUp();
        refreshWhileRunning();
        refreshTooSoon();
        datagramOfNone();
        deliverOfNone();
        dropOfNone();
        lookupOfNone();
        candidateOfNone();
        foundOfNone();
        bucketsOfNone();
        bucketOfNone();
        contactOfNone();
        closestOfNone();
        entryOfNone();
        Due.end();
    }

    /** 10 and 20 are up, 30 has left; 20 looks for itself, and its FIND to 10 waits alone. */
    private static void running(Net x) {
        x.join(10, -1);
        x.join(30, 10);
        x.drop(0);
        x.leave(30);
        x.join(20, 10);
        x.tick();
    }

    /**
     * 100, 1 and 200 are up, 2 has left. 100 and 200 hold entries, the GET of 1 has ended and
     * has found three, 200 looks for 5, and its two FINDs wait.
     */
    private static void busy(Net x) {
        x.join(100, -1);
        int[] announcers = {1, 2, 200};
        for (int p : announcers) {
            Steps.joinAndFind(x, p, 100);
            Steps.announce(x, p, 100);
            x.tick();
        }
        x.begin(1, 1, 100);
        Steps.deliverAll(x);
        x.begin(200, 0, 5);
        x.leave(2);
    }

    /** 128 has a bucket touched 20 ticks ago, but its lookup runs; 50 joined 15 ticks ago. */
    private static void stale(Net x) {
        x.join(128, -1);
        int[] guests = {1, 2, 200, 3};
        for (int guest : guests) {
            Steps.see(x, 128, guest);
        }
        Steps.ticks(x, 5);
        x.join(50, -1);
        Steps.ticks(x, 15);
        x.begin(128, 0, 0);
    }

    /** 24 FINDs of 20 to 10 wait. */
    private static void fullLine(Net x) {
        x.join(10, -1);
        Steps.crowd(x, 10, 20, 24);
    }

    /** 10, 20, .. 120 have joined, and 20 has left. */
    private static void twelve(Net x) {
        for (int p = 10; p <= 120; p += 10) {
            x.join(p, p == 10 ? -1 : 10);
        }
        x.leave(20);
    }

    private static int bit(boolean answer) {
        return answer ? 1 : 0;
    }

    private static void refusesJoin(Scene scene, int p, int via) {
        scene.refuses("join(" + p + ", " + via + ")", 0, x -> bit(x.join(p, via)));
    }

    private static void refusesBegin(Scene scene, int p, int kind, int target) {
        scene.refuses("begin(" + p + ", " + kind + ", " + target + ")", 0,
                x -> bit(x.begin(p, kind, target)));
    }

    private static void refusesRefresh(Scene scene, int p) {
        scene.refuses("refresh(" + p + ")", -1, x -> x.refresh(p));
    }

    private static void joinOfNoNumber() {
        Due.shows("Promise 2", "false, refused, when p is no number");
        for (int p : NO_NUMBERS) {
            refusesJoin(EMPTY, p, -1);
            refusesJoin(RUNNING, p, -1);
            refusesJoin(RUNNING, p, 10);
            refusesJoin(FULL_LINE, p, 10);
        }
    }

    private static void joinOfOneThatIsUp() {
        Due.shows("Promise 2", "refused, when p .. is up");
        int[] vias = {-1, 10, 20};
        for (int via : vias) {
            refusesJoin(RUNNING, 10, via);
            refusesJoin(RUNNING, 20, via);
            refusesJoin(FULL_LINE, 20, via);
        }
        refusesJoin(BUSY, 1, -1);
        refusesJoin(BUSY, 100, 200);
        refusesJoin(TWELVE, 30, 10);
    }

    private static void joinOfTheThirteenth() {
        Due.shows("Promise 2", "refused, when p .. would be the thirteenth number ever to join");
        int[] others = {0, 1, 121, 255};
        for (int p : others) {
            refusesJoin(TWELVE, p, -1);
            refusesJoin(TWELVE, p, 120);
        }
    }

    private static void joinViaNobody() {
        Due.shows("Promise 2", "refused .. when via is neither -1 nor a peer that is up"
                + " (so p itself is none)");
        int[] vias = {-2, 256, 266, -246, LEAST, MOST, 0, 5, 30, 255};
        for (int via : vias) {
            refusesJoin(RUNNING, 5, via);
            refusesJoin(RUNNING, 30, via);
        }
        refusesJoin(EMPTY, 0, 0);
        refusesJoin(EMPTY, 0, 1);
        refusesJoin(BUSY, 2, 2);
        refusesJoin(TWELVE, 20, 20);
        refusesJoin(TWELVE, 20, 1);
    }

    private static void leaveOfOneThatIsNotUp() {
        Due.shows("Promise 3", "false when it is not up");
        for (int p : NO_NUMBERS) {
            EMPTY.refuses("leave(" + p + ")", 0, x -> bit(x.leave(p)));
            RUNNING.refuses("leave(" + p + ")", 0, x -> bit(x.leave(p)));
        }
        int[] numbers = {0, 5, 30, 255};
        for (int p : numbers) {
            RUNNING.refuses("leave(" + p + ")", 0, x -> bit(x.leave(p)));
        }
        TWELVE.refuses("leave(20)", 0, x -> bit(x.leave(20)));
        BUSY.refuses("leave(2)", 0, x -> bit(x.leave(2)));
    }

    private static void beginOfOneThatIsNotUp() {
        Due.shows("Promise 4", "false, refused, when p is not up");
        for (int p : NO_NUMBERS) {
            refusesBegin(RUNNING, p, 0, 10);
        }
        for (int kind = 0; kind <= 2; kind++) {
            refusesBegin(EMPTY, 0, kind, 0);
            refusesBegin(RUNNING, 30, kind, 30);
            refusesBegin(BUSY, 2, kind, 100);
        }
    }

    private static void beginWhileRunning() {
        Due.shows("Promise 4", "refused, when .. its lookup is running");
        for (int kind = 0; kind <= 2; kind++) {
            refusesBegin(RUNNING, 20, kind, 20);
            refusesBegin(BUSY, 200, kind, 100);
            refusesBegin(FULL_LINE, 20, kind, 0);
        }
    }

    private static void beginOfNoKind() {
        Due.shows("Promise 4", "refused, when .. the kind is none of these");
        int[] kinds = {-1, 3, 4, 256, LEAST, MOST};
        for (int kind : kinds) {
            refusesBegin(RUNNING, 10, kind, 20);
            refusesBegin(BUSY, 1, kind, 100);
        }
    }

    private static void beginForNoNumber() {
        Due.shows("Promise 4", "refused, when .. the target is no number");
        for (int target : NO_NUMBERS) {
            refusesBegin(RUNNING, 10, 0, target);
            refusesBegin(BUSY, 1, 1, target);
            refusesBegin(BUSY, 100, 2, target);
        }
    }

    private static void refreshOfOneThatIsNotUp() {
        Due.shows("Promise 5", "If p is up .. otherwise -1, refused");
        for (int p : NO_NUMBERS) {
            refusesRefresh(STALE, p);
        }
        refusesRefresh(EMPTY, 0);
        refusesRefresh(RUNNING, 30);
        refusesRefresh(STALE, 0);
    }

    private static void refreshWhileRunning() {
        Due.shows("Promise 5", "its lookup is not running .. otherwise -1, refused");
        refusesRefresh(STALE, 128);
    }

    private static void refreshTooSoon() {
        Due.shows("Promise 5", "some bucket of its table was touched 16 or more ticks ago");
        refusesRefresh(STALE, 50);
        refusesRefresh(RUNNING, 10);
        refusesRefresh(BUSY, 100);
    }

    private static void datagramOfNone() {
        Due.shows("Promise 9", "-1 when there is no such datagram or what is not 0 .. 11");
        int[] places = {-1, -12, 1, 2, 23, 24, LEAST, MOST};
        for (int k : places) {
            RUNNING.refuses("datagram(" + k + ", 0)", -1, x -> x.datagram(k, 0));
            EMPTY.refuses("datagram(" + k + ", 3)", -1, x -> x.datagram(k, 3));
        }
        FULL_LINE.refuses("datagram(24, 0)", -1, x -> x.datagram(24, 0));
        FULL_LINE.refuses("datagram(-1, 0)", -1, x -> x.datagram(-1, 0));
        int[] whats = {-1, -12, 12, 13, 24, LEAST, MOST};
        for (int what : whats) {
            FULL_LINE.refuses("datagram(1, " + what + ")", -1, x -> x.datagram(1, what));
            FULL_LINE.refuses("datagram(24, " + what + ")", -1, x -> x.datagram(24, what));
        }
    }

    private static void deliverOfNone() {
        Due.shows("Promise 10", "-1, refused, when there is no such datagram");
        int[] places = {-1, 1, 2, 23, 24, LEAST, MOST};
        for (int k : places) {
            RUNNING.refuses("deliver(" + k + ")", -1, x -> x.deliver(k));
        }
        EMPTY.refuses("deliver(0)", -1, x -> x.deliver(0));
        FULL_LINE.refuses("deliver(24)", -1, x -> x.deliver(24));
        FULL_LINE.refuses("deliver(-1)", -1, x -> x.deliver(-1));
        BUSY.refuses("deliver(2)", -1, x -> x.deliver(2));
    }

    private static void dropOfNone() {
        Due.shows("Promise 11", "false when there is no such datagram");
        int[] places = {-1, 1, 2, 23, 24, LEAST, MOST};
        for (int k : places) {
            RUNNING.refuses("drop(" + k + ")", 0, x -> bit(x.drop(k)));
        }
        EMPTY.refuses("drop(0)", 0, x -> bit(x.drop(0)));
        FULL_LINE.refuses("drop(24)", 0, x -> bit(x.drop(24)));
        FULL_LINE.refuses("drop(-1)", 0, x -> bit(x.drop(-1)));
        BUSY.refuses("drop(2)", 0, x -> bit(x.drop(2)));
    }

    private static void lookupOfNone() {
        Due.shows("Promise 12", "-1 when p is not up (or no peer)");
        for (int p : NO_NUMBERS) {
            RUNNING.refuses("lookup(" + p + ")", -1, x -> x.lookup(p));
        }
        EMPTY.refuses("lookup(0)", -1, x -> x.lookup(0));
        RUNNING.refuses("lookup(5)", -1, x -> x.lookup(5));
        RUNNING.refuses("lookup(30)", -1, x -> x.lookup(30));
    }

    private static void candidateOfNone() {
        Due.shows("Promise 13", "-1 when p is not up, it has no lookup, or there is no such"
                + " candidate");
        for (int p : NO_NUMBERS) {
            RUNNING.refuses("candidate(" + p + ", 0)", -1, x -> x.candidate(p, 0));
        }
        EMPTY.refuses("candidate(0, 0)", -1, x -> x.candidate(0, 0));
        RUNNING.refuses("candidate(30, 0)", -1, x -> x.candidate(30, 0));
        RUNNING.refuses("candidate(10, 0)", -1, x -> x.candidate(10, 0));
        int[] places = {-1, 1, 11, 12, LEAST, MOST};
        for (int j : places) {
            RUNNING.refuses("candidate(20, " + j + ")", -1, x -> x.candidate(20, j));
        }
    }

    private static void foundOfNone() {
        Due.shows("Promise 14", "-1 when p is not up, it has no lookup, or it has not found so"
                + " many");
        for (int p : NO_NUMBERS) {
            BUSY.refuses("found(" + p + ", 0)", -1, x -> x.found(p, 0));
        }
        BUSY.refuses("found(2, 0)", -1, x -> x.found(2, 0));
        BUSY.refuses("found(100, 0)", -1, x -> x.found(100, 0));
        BUSY.refuses("found(200, 0)", -1, x -> x.found(200, 0));
        int[] places = {-1, 3, 11, 12, LEAST, MOST};
        for (int j : places) {
            BUSY.refuses("found(1, " + j + ")", -1, x -> x.found(1, j));
        }
    }

    private static void bucketsOfNone() {
        Due.shows("Promise 15", "-1 when p is not up");
        for (int p : NO_NUMBERS) {
            RUNNING.refuses("buckets(" + p + ")", -1, x -> x.buckets(p));
        }
        RUNNING.refuses("buckets(30)", -1, x -> x.buckets(30));
        RUNNING.refuses("buckets(5)", -1, x -> x.buckets(5));
    }

    private static void bucketOfNone() {
        Due.shows("Promise 16", "-1 when p is not up or there is no such bucket");
        for (int p : NO_NUMBERS) {
            RUNNING.refuses("bucket(" + p + ", 0)", -1, x -> x.bucket(p, 0));
        }
        RUNNING.refuses("bucket(30, 0)", -1, x -> x.bucket(30, 0));
        int[] places = {-1, 2, 8, 9, LEAST, MOST};
        for (int b : places) {
            STALE.refuses("bucket(128, " + b + ")", -1, x -> x.bucket(128, b));
        }
    }

    private static void contactOfNone() {
        Due.shows("Promise 17", "-1 when p is not up or there is no such bucket or contact");
        for (int p : NO_NUMBERS) {
            RUNNING.refuses("contact(" + p + ", 0, 0)", -1, x -> x.contact(p, 0, 0));
        }
        RUNNING.refuses("contact(30, 0, 0)", -1, x -> x.contact(30, 0, 0));
        RUNNING.refuses("contact(10, 0, 0)", -1, x -> x.contact(10, 0, 0));
        int[] places = {-1, 2, 3, 8, 9, LEAST, MOST};
        for (int i : places) {
            STALE.refuses("contact(128, " + i + ", 0)", -1, x -> x.contact(128, i, 0));
            STALE.refuses("contact(128, 1, " + i + ")", -1, x -> x.contact(128, 1, i));
        }
        STALE.refuses("contact(128, 0, 3)", -1, x -> x.contact(128, 0, 3));
    }

    private static void closestOfNone() {
        Due.shows("Promise 18", "-1 when p is not up, the target is no number, j is not 0 .. 2,"
                + " or there are not so many contacts");
        for (int n : NO_NUMBERS) {
            STALE.refuses("closest(" + n + ", 0, 0)", -1, x -> x.closest(n, 0, 0));
            STALE.refuses("closest(128, " + n + ", 0)", -1, x -> x.closest(128, n, 0));
        }
        int[] places = {-1, 3, 4, LEAST, MOST};
        for (int j : places) {
            STALE.refuses("closest(128, 0, " + j + ")", -1, x -> x.closest(128, 0, j));
        }
        STALE.refuses("closest(50, 0, 0)", -1, x -> x.closest(50, 0, 0));
        STALE.refuses("closest(1, 0, 1)", -1, x -> x.closest(1, 0, 1));
        RUNNING.refuses("closest(30, 0, 0)", -1, x -> x.closest(30, 0, 0));
    }

    private static void entryOfNone() {
        Due.shows("Promise 19", "-1 when p is not up or there is no such entry");
        for (int p : NO_NUMBERS) {
            BUSY.refuses("entry(" + p + ", 0)", -1, x -> x.entry(p, 0));
        }
        BUSY.refuses("entry(2, 0)", -1, x -> x.entry(2, 0));
        RUNNING.refuses("entry(10, 0)", -1, x -> x.entry(10, 0));
        int[] places = {-1, 3, 5, 6, LEAST, MOST};
        for (int j : places) {
            BUSY.refuses("entry(100, " + j + ")", -1, x -> x.entry(100, j));
        }
    }
}
