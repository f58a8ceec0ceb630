/** Promises 4 (begin), 5 (refresh), 6 (tick), 13 (candidate) and 14 (found). */
public final class LookupsTest {
    private static final int ASKED = 256;
    private static final int ANSWERED = 512;
    private static final int FAILED = 768;

    private LookupsTest() {
    }

    public static void main(String[] args) {
        beginIsRefused();
        beginWithoutContacts();
        beginAsksTwo();
        beginAsksInTheWordOfItsKind();
        beginTakesThreeAtMost();
        beginForgetsTheOneBefore();
        beginTouches();
        farCandidatesStayNew();
        pushedOutCandidateIsWaitedFor();
        announceStores();
        announceSkipsFailed();
        lateAnswersAreNotTaken();
        refreshWithoutContacts();
        refreshTakesTheFirstStaleBucket();
        refreshIsRefused();
        tickFailsTheSilent();
        tickGoesByNumber();
        tickMissesOnlyContacts();
        tickLeavesOutWhoLeft();
        candidateNeedsAPlace();
        foundKeepsOrder();
        Due.end();
    }

    /** 0 knows 1, 2 and 4; 4 knows 0, 5 and 7. Serials 1 to 5 are used up, no lookup runs. */
    private static Net small() {
        Net x = new Net();
        x.join(0, -1);
        Steps.see(x, 0, 1);
        Steps.see(x, 0, 2);
        Steps.see(x, 0, 4);
        Steps.see(x, 4, 5);
        Steps.see(x, 4, 7);
        Steps.silentTicks(x, 4);
        return x;
    }

    private static void beginIsRefused() {
        Net x = small();
        int[] wrong = {-1, 256, 3, Integer.MIN_VALUE, Integer.MAX_VALUE};
        for (int n : wrong) {
            Due.is("begin(" + n + ", 0, 5)", x.begin(n, 0, 5), false);
            Due.is("begin(0, " + n + ", 5)", x.begin(0, n, 5), false);
        }
        int[] wrongTargets = {-1, 256, Integer.MIN_VALUE, Integer.MAX_VALUE};
        for (int n : wrongTargets) {
            Due.is("begin(0, 0, " + n + ")", x.begin(0, 0, n), false);
        }
        Due.is("refused: lookup(0)", x.lookup(0), 0);
        Due.is("refused: waiting()", x.waiting(), 0);
        Due.is("begin(0, 0, 255)", x.begin(0, 0, 255), true);
        Due.is("refused ones take no serial", x.datagram(0, 3), 6);
        Due.is("begin when running", x.begin(0, 0, 5), false);
        Due.is("begin when running: waiting()", x.waiting(), 2);
        Due.is("begin when running: target", x.datagram(0, 4), 255);
    }

    private static void beginWithoutContacts() {
        Net x = new Net();
        x.join(3, -1);
        for (int kind = 0; kind <= 2; kind++) {
            Due.is("without contacts: begin", x.begin(3, kind, 0), true);
            Due.is("without contacts: lookup(3)", x.lookup(3), 2);
        }
        Steps.areCandidates("without contacts", x, 3);
        Steps.areFound("without contacts", x, 3);
        Due.is("without contacts: waiting()", x.waiting(), 0);
        x.join(4, 3);
        Due.is("without contacts: each takes a serial", x.datagram(0, 3), 4);
    }

    private static void beginAsksTwo() {
        Net x = small();
        x.begin(0, 0, 3);
        Steps.areCandidates("two", x, 0, 2 + ASKED, 1 + ASKED, 4);
        Due.is("two: waiting()", x.waiting(), 2);
        Steps.isDatagram("two", x, 0, 0, 0, 2, 6, 3);
        Steps.isDatagram("two", x, 1, 0, 0, 1, 6, 3);
        x.deliver(0);
        Steps.areCandidates("two, asked", x, 0, 2 + ASKED, 1 + ASKED, 4);
        x.deliver(1);
        Steps.areCandidates("two, answered", x, 0, 2 + ANSWERED, 1 + ASKED, 4 + ASKED);
        Due.is("two, answered: waiting()", x.waiting(), 2);
        Steps.isDatagram("two, answered", x, 1, 0, 0, 4, 6, 3);
    }

    private static void beginAsksInTheWordOfItsKind() {
        for (int kind = 0; kind <= 2; kind++) {
            Net x = small();
            x.begin(0, kind, 5);
            int word = kind == 1 ? 1 : 0;
            Steps.isDatagram("kind " + kind, x, 0, word, 0, 4, 6, 5);
            Steps.isDatagram("kind " + kind, x, 1, word, 0, 1, 6, 5);
            Steps.deliverAll(x);
            Due.is("kind " + kind + ": lookup(0)", x.lookup(0), 2);
        }
    }

    private static void beginTakesThreeAtMost() {
        Net x = new Net();
        x.join(0, -1);
        int[] guests = {1, 2, 200, 4, 210};
        for (int guest : guests) {
            Steps.see(x, 0, guest);
        }
        x.begin(0, 0, 3);
        Steps.areCandidates("three of five", x, 0, 2 + ASKED, 1 + ASKED, 4);
        Steps.silentTicks(x, 8);
        Steps.areCandidates("no others come in", x, 0, 2 + FAILED, 1 + FAILED, 4 + FAILED);
        Due.is("no others come in: lookup(0)", x.lookup(0), 2);
    }

    private static void beginForgetsTheOneBefore() {
        Net x = small();
        x.begin(0, 2, 5);
        Steps.deliverAll(x);
        x.begin(0, 1, 5);
        Steps.deliverAll(x);
        Steps.areFound("before", x, 0, 0);
        x.leave(0);
        x.join(0, 4);
        Steps.dropAll(x);
        Steps.areCandidates("anew", x, 0, 4 + ASKED);
        Steps.areFound("anew", x, 0);
        Steps.silentTicks(x, 4);
        x.begin(0, 1, 5);
        Steps.deliverAll(x);
        Steps.areFound("found anew", x, 0, 0);
        x.begin(0, 0, 5);
        Steps.areFound("forgotten", x, 0);
    }

    private static void beginTouches() {
        Net x = new Net();
        x.join(0, -1);
        int[] guests = {1, 2, 200, 4};
        for (int guest : guests) {
            Steps.see(x, 0, guest);
        }
        Steps.ticks(x, 2);
        x.begin(0, 0, 128);
        Due.is("touched: bucket(0, 0)", x.bucket(0, 0), 256 * 3 + 1024 * 2);
        Due.is("touched: bucket(0, 1)", x.bucket(0, 1), 128 + 256);
        Steps.silentTicks(x, 8);
        Due.is("touched: lookup(0)", x.lookup(0), 2);
        x.begin(0, 0, 127);
        Due.is("touched: bucket(0, 0)", x.bucket(0, 0), 256 * 3);
        Due.is("touched: bucket(0, 1)", x.bucket(0, 1), 128 + 256 + 1024 * 8);
    }

    private static void farCandidatesStayNew() {
        Net x = small();
        x.begin(0, 0, 5);
        Steps.areCandidates("far", x, 0, 4 + ASKED, 1 + ASKED, 2);
        x.deliver(0);
        x.deliver(1);
        Steps.areCandidates("far, closer ones told", x, 0,
                5 + ASKED, 4 + ANSWERED, 7, 1 + ASKED, 2);
        Steps.deliverAll(x);
        Steps.areCandidates("far, ended", x, 0,
                5 + ANSWERED, 4 + ANSWERED, 7 + ANSWERED, 1 + ANSWERED, 2);
        Due.is("far: lookup(0)", x.lookup(0), 2);
        Due.is("far: no STORE for a FIND", x.waiting(), 0);
    }

    private static void pushedOutCandidateIsWaitedFor() {
        Net x = small();
        x.begin(0, 0, 5);
        x.drop(1);
        Steps.deliverAll(x);
        Steps.areCandidates("pushed out", x, 0,
                5 + ANSWERED, 4 + ANSWERED, 7 + ANSWERED, 1 + ASKED, 2);
        Due.is("pushed out: lookup(0)", x.lookup(0), 1);
        Steps.ticks(x, 3);
        Due.is("pushed out, three ticks: lookup(0)", x.lookup(0), 1);
        Due.is("pushed out: tick()", x.tick(), 1);
        Steps.areCandidates("pushed out, failed", x, 0,
                5 + ANSWERED, 4 + ANSWERED, 7 + ANSWERED, 1 + FAILED, 2);
        Due.is("pushed out, failed: lookup(0)", x.lookup(0), 2);
    }

    private static void announceStores() {
        Net x = small();
        x.begin(0, 2, 5);
        for (int i = 0; i < 7; i++) {
            Due.is("announce: no STORE yet", x.datagram(0, 0) < 3, true);
            x.deliver(0);
        }
        Due.is("announce: running", x.lookup(0), 1);
        x.deliver(0);
        Due.is("announce: ended", x.lookup(0), 2);
        Due.is("announce: waiting()", x.waiting(), 3);
        Steps.isDatagram("announce", x, 0, 3, 0, 5, 6, 5, 35670);
        Steps.isDatagram("announce", x, 1, 3, 0, 4, 6, 5, 60363);
        Steps.isDatagram("announce", x, 2, 3, 0, 7, 6, 5, 49453);
    }

    private static void announceSkipsFailed() {
        Net x = small();
        x.leave(5);
        x.leave(7);
        x.begin(0, 2, 5);
        Steps.deliverAll(x);
        Steps.ticks(x, 4);
        Steps.areCandidates("skip", x, 0, 5 + FAILED, 4 + ANSWERED, 7 + FAILED,
                1 + ANSWERED, 2 + ASKED);
        x.deliver(0);
        x.deliver(0);
        Due.is("skip: lookup(0)", x.lookup(0), 2);
        Due.is("skip: waiting()", x.waiting(), 3);
        Due.is("skip: the first STORE", x.datagram(0, 2), 4);
        Due.is("skip: the second STORE", x.datagram(1, 2), 1);
        Due.is("skip: the third STORE", x.datagram(2, 2), 2);
    }

    private static void lateAnswersAreNotTaken() {
        Net x = small();
        x.begin(0, 0, 5);
        x.deliver(0);
        Steps.ticks(x, 4);
        Steps.areCandidates("late", x, 0, 4 + FAILED, 1 + FAILED, 2 + ASKED);
        x.deliver(1);
        Steps.areCandidates("late, told", x, 0, 4 + FAILED, 1 + FAILED, 2 + ASKED);
        Due.is("late: still seen, its misses gone", x.contact(0, 0, 2), 4);
        x.deliver(1);
        x.deliver(1);
        Due.is("late: lookup(0)", x.lookup(0), 2);
        x.begin(0, 0, 5);
        x.deliver(0);
        x.deliver(0);
        Steps.areCandidates("answer to the lookup before", x, 0, 4 + ASKED, 1 + ASKED, 2);
    }

    private static void refreshWithoutContacts() {
        Net x = new Net();
        Steps.ticks(x, 290);
        x.join(9, -1);
        Steps.ticks(x, 15);
        Due.is("15 ticks ago: refresh(9)", x.refresh(9), -1);
        Due.is("15 ticks ago: lookup(9)", x.lookup(9), 0);
        x.tick();
        Due.is("16 ticks ago: refresh(9)", x.refresh(9), 306 - 256);
        Due.is("16 ticks ago: lookup(9)", x.lookup(9), 2);
        Due.is("16 ticks ago: bucket(9, 0)", x.bucket(9, 0), 0);
        Due.is("touched now: refresh(9)", x.refresh(9), -1);
        x.join(8, 9);
        Due.is("refresh takes one serial, when not refused", x.datagram(0, 3), 2);
    }

    private static void refreshTakesTheFirstStaleBucket() {
        Net x = new Net();
        x.join(16, -1);
        int[] guests = {17, 18, 20, 24};
        for (int guest : guests) {
            Steps.see(x, 16, guest);
        }
        Due.is("stale: buckets(16)", x.buckets(16), 6);
        Steps.silentTicks(x, 20);
        Due.is("stale: refresh(16)", x.refresh(16), 20 % 16);
        Due.is("stale: serial", x.datagram(0, 3), 5);
        Due.is("stale: kind", x.datagram(0, 0), 0);
        Due.is("stale: target", x.datagram(0, 4), 4);
        Due.is("stale: bucket(16, 0)", x.bucket(16, 0), 0);
        Due.is("running: refresh(16)", x.refresh(16), -1);
        Steps.silentTicks(x, 8);
        Due.is("stale: lookup(16)", x.lookup(16), 2);
        Due.is("next: refresh(16)", x.refresh(16), 16 + 28 % 8);
        Steps.silentTicks(x, 8);
        Due.is("the first again: refresh(16)", x.refresh(16), 36 % 16);
        Steps.silentTicks(x, 8);
        Due.is("the second again: refresh(16)", x.refresh(16), 16 + 44 % 8);
        Steps.silentTicks(x, 8);
        int[] targets = {0, 16, 24};
        for (int target : targets) {
            x.begin(16, 0, target);
            Steps.deliverAll(x);
        }
        Due.is("the fourth: refresh(16)", x.refresh(16), 32 + 52 % 32);
    }

    private static void refreshIsRefused() {
        Net x = new Net();
        x.join(1, -1);
        x.leave(1);
        Steps.ticks(x, 30);
        int[] wrong = {-1, 1, 2, 256, Integer.MIN_VALUE, Integer.MAX_VALUE};
        for (int p : wrong) {
            Due.is("refresh(" + p + ")", x.refresh(p), -1);
        }
        Due.is("refused: waiting()", x.waiting(), 0);
    }

    private static void tickFailsTheSilent() {
        Net x = small();
        x.begin(0, 0, 5);
        x.tick();
        x.deliver(0);
        x.deliver(1);
        Steps.areCandidates("silent", x, 0, 5 + ASKED, 4 + ANSWERED, 7, 1 + ASKED, 2);
        Due.is("second tick", x.tick(), 0);
        Due.is("third tick", x.tick(), 0);
        Due.is("fourth tick: 1 alone was asked 4 ago", x.tick(), 1);
        Steps.areCandidates("fourth tick", x, 0, 5 + ASKED, 4 + ANSWERED, 7 + ASKED,
                1 + FAILED, 2);
        Due.is("fifth tick: now 5 too", x.tick(), 1);
        Steps.areCandidates("fifth tick", x, 0, 5 + FAILED, 4 + ANSWERED, 7 + ASKED,
                1 + FAILED, 2 + ASKED);
        Steps.areContacts("one miss", x, 0, 0, 1 + 256, 2, 4);
        Steps.ticks(x, 2);
        Due.is("eighth tick", x.tick(), 1);
        Due.is("ninth tick", x.tick(), 1);
        Due.is("all others failed: lookup(0)", x.lookup(0), 2);
        Steps.areContacts("two have missed", x, 0, 0, 1 + 256, 2 + 256, 4);
        Due.is("tenth tick", x.tick(), 0);
    }

    private static void tickGoesByNumber() {
        Net x = new Net();
        x.join(50, -1);
        int[] guests = {60, 70, 80};
        for (int guest : guests) {
            Steps.see(x, 50, guest);
        }
        // 90 and then 30, which is the lesser number, hear of all from 50.
        x.join(90, 50);
        Steps.deliverAll(x);
        x.join(30, 50);
        Steps.deliverAll(x);
        Steps.silentTicks(x, 16);
        x.begin(90, 0, 90);
        x.begin(50, 0, 50);
        x.begin(30, 0, 30);
        Steps.dropAll(x);
        Due.is("by number: three ticks", x.tick() + x.tick() + x.tick(), 0);
        Due.is("by number: tick()", x.tick(), 6);
        int[] senders = {30, 50, 90};
        Due.is("by number: waiting()", x.waiting(), 3);
        for (int k = 0; k < 3; k++) {
            Due.is("by number: sender " + k, x.datagram(k, 1), senders[k]);
        }
    }

    private static void tickMissesOnlyContacts() {
        Net x = small();
        x.leave(5);
        x.begin(0, 0, 5);
        Steps.deliverAll(x);
        Due.is("no contact: candidate(0, 0)", x.candidate(0, 0), 5 + ASKED);
        Steps.ticks(x, 4);
        Due.is("no contact: candidate(0, 0)", x.candidate(0, 0), 5 + FAILED);
        Due.is("no contact: closest(0, 5, 0)", x.closest(0, 5, 0), 4);
        Due.is("no contact: closest(0, 5, 1)", x.closest(0, 5, 1), 7);
        Due.is("no contact: closest(0, 5, 2)", x.closest(0, 5, 2), 1);
    }

    private static void tickLeavesOutWhoLeft() {
        Net x = small();
        x.begin(0, 0, 5);
        x.begin(4, 0, 5);
        Steps.dropAll(x);
        x.leave(0);
        Due.is("left: three ticks", x.tick() + x.tick() + x.tick(), 0);
        Due.is("left: 4 alone waits in vain", x.tick(), 2);
        Due.is("left: waiting()", x.waiting(), 1);
        Due.is("left: sender", x.datagram(0, 1), 4);
    }

    private static void candidateNeedsAPlace() {
        Net x = small();
        Due.is("no lookup: candidate(0, 0)", x.candidate(0, 0), -1);
        x.begin(0, 0, 5);
        int[] wrong = {-1, 3, 12, 256, Integer.MIN_VALUE, Integer.MAX_VALUE};
        for (int j : wrong) {
            Due.is("candidate(0, " + j + ")", x.candidate(0, j), -1);
        }
        int[] wrongPeers = {-1, 3, 256, Integer.MIN_VALUE, Integer.MAX_VALUE};
        for (int p : wrongPeers) {
            Due.is("candidate(" + p + ", 0)", x.candidate(p, 0), -1);
        }
        x.leave(0);
        Due.is("left: candidate(0, 0)", x.candidate(0, 0), -1);
    }

    private static void foundKeepsOrder() {
        Net x = new Net();
        x.join(0, -1);
        // 3 announces at 0 alone, 2 at both others, 1 at 0: 0 keeps 3, 2, 1.
        int[] announcers = {3, 2, 1};
        for (int p : announcers) {
            x.join(p, 0);
            Steps.deliverAll(x);
            x.begin(p, 2, 100);
            Steps.deliverAll(x);
        }
        Due.is("kept: entry(0, 0)", x.entry(0, 0), 100 + 256 * 3 + 65536 * 24);
        Due.is("kept: entry(0, 1)", x.entry(0, 1), 100 + 256 * 2 + 65536 * 24);
        Due.is("kept: entry(0, 2)", x.entry(0, 2), 100 + 256 + 65536 * 24);
        x.join(4, 0);
        Steps.deliverAll(x);
        Due.is("FIND tells no holders: found(4, 0)", x.found(4, 0), -1);
        Due.is("no lookup: found(0, 0)", x.found(0, 0), -1);
        x.begin(4, 1, 100);
        Steps.deliverAll(x);
        Steps.areFound("found", x, 4, 3, 2, 1);
        int[] wrong = {-1, 3, 12, Integer.MIN_VALUE, Integer.MAX_VALUE};
        for (int j : wrong) {
            Due.is("found(4, " + j + ")", x.found(4, j), -1);
        }
        int[] wrongPeers = {-1, 5, 256, Integer.MIN_VALUE, Integer.MAX_VALUE};
        for (int p : wrongPeers) {
            Due.is("found(" + p + ", 0)", x.found(p, 0), -1);
        }
        x.begin(4, 1, 101);
        Steps.deliverAll(x);
        Steps.areFound("another key", x, 4);
        x.leave(4);
        Due.is("left: found(4, 0)", x.found(4, 0), -1);
    }
}
