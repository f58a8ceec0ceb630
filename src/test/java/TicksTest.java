/** The bounds that Terms name for a TICK, and promises 5 and 6. */
public final class TicksTest {
    private static final int ASKED = 256;
    private static final int ANSWERED = 512;
    private static final int FAILED = 768;
    private static final int AGO = 1024;

    private TicksTest() {
    }

    public static void main(String[] args) {
        sixteenTicksAgo();
        sixteenTicksAgoIsTheSecondBucket();
        firstOfTheStaleBuckets();
        refreshOneAfterAnother();
        targetGoesAroundAllNumbers();
        targetGoesAroundFourNumbers();
        targetIsInTheUpperHalf();
        refreshBeginsAFind();
        refreshWithoutContactsHasEnded();
        refreshWaitsForTheEnd();
        refreshNeedsOneThatIsUp();
        fourTicksAgo();
        askedLaterFailsLater();
        answeredDoesNotFail();
        tickCountsAllThatFailed();
        tickWithoutALookup();
        leastNumberFirst();
        onlyContactsMiss();
        missesAddUp();
        tickLeavesOutWhoIsNotUp();
        twoThatFailMakeWayForTwo();
        refreshOfInnerBuckets();
        Due.end();
    }

    private static void sixteenTicksAgo() {
        Due.shows("Promise 5", "some bucket of its table was touched 16 or more ticks ago");
        for (int ticks = 14; ticks <= 18; ticks++) {
            Net x = new Net();
            Steps.ticks(x, 100);
            x.join(9, -1);
            Steps.ticks(x, ticks);
            Due.is(ticks + " ticks: refresh(9)", x.refresh(9), ticks < 16 ? -1 : 100 + ticks);
            Due.is(ticks + " ticks: lookup(9)", x.lookup(9), ticks < 16 ? 0 : 2);
            Due.is(ticks + " ticks: bucket(9, 0)", x.bucket(9, 0), ticks < 16 ? AGO * ticks : 0);
        }
    }

    /** 200 has the buckets 0 .. 127, with 1, 2 and 3, and 128 .. 255, with 201. */
    private static Net twoBuckets() {
        return Steps.host(200, 1, 2, 3, 201);
    }

    /** 200 looks for 0, and all answer: its lower bucket is touched. */
    private static void touchLower(Net x) {
        x.begin(200, 0, 0);
        Steps.deliverAll(x);
    }

    private static void sixteenTicksAgoIsTheSecondBucket() {
        Due.shows("Promise 5", "the first such bucket's range", "one touched 15 ticks ago is none");
        Net x = twoBuckets();
        x.tick();
        touchLower(x);
        Steps.ticks(x, 14);
        Due.is("14 and 15 ticks: refresh(200)", x.refresh(200), -1);
        x.tick();
        Due.is("bucket(200, 0)", x.bucket(200, 0), 0 + 256 * 3 + AGO * 15);
        Due.is("bucket(200, 1)", x.bucket(200, 1), 128 + 256 + AGO * 16);
        Due.is("15 and 16 ticks: refresh(200)", x.refresh(200), 128 + 16);
        Net y = twoBuckets();
        y.tick();
        touchLower(y);
        Steps.ticks(y, 16);
        Due.is("16 and 17 ticks: refresh(200)", y.refresh(200), 17);
    }

    private static void firstOfTheStaleBuckets() {
        Due.shows("Promise 5", "the first such bucket's range (the one with the least numbers)");
        Net x = twoBuckets();
        Steps.ticks(x, 5);
        x.begin(200, 0, 255);
        Steps.silentTicks(x, 20);
        Due.is("bucket(200, 0)", x.bucket(200, 0), 0 + 256 * 3 + AGO * 25);
        Due.is("bucket(200, 1)", x.bucket(200, 1), 128 + 256 + AGO * 20);
        Due.is("refresh(200)", x.refresh(200), 25);
        Net y = twoBuckets();
        Steps.ticks(y, 5);
        touchLower(y);
        Steps.ticks(y, 20);
        // The upper one was touched longer ago, but stands behind the lower one.
        Due.is("bucket(200, 0)", y.bucket(200, 0), 0 + 256 * 3 + AGO * 20);
        Due.is("bucket(200, 1)", y.bucket(200, 1), 128 + 256 + AGO * 25);
        Due.is("refresh(200)", y.refresh(200), 25);
    }

    private static void refreshOneAfterAnother() {
        Due.shows("Promise 5", "p begins a FIND", "its bucket is touched then");
        Net x = twoBuckets();
        Steps.ticks(x, 30);
        Due.is("the first", x.refresh(200), 30);
        Due.is("bucket(200, 0)", x.bucket(200, 0), 0 + 256 * 3);
        Due.is("bucket(200, 1)", x.bucket(200, 1), 128 + 256 + AGO * 30);
        Due.is("while it runs", x.refresh(200), -1);
        Steps.silentTicks(x, 8);
        Due.is("the second", x.refresh(200), 128 + 38);
        Steps.silentTicks(x, 8);
        Due.is("the first again, 16 ticks later", x.refresh(200), 46);
        Steps.silentTicks(x, 7);
        Due.is("while it runs", x.refresh(200), -1);
    }

    private static void targetGoesAroundAllNumbers() {
        Due.shows("Promise 5", "plus the remainder of CLOCK divided by how many numbers that"
                + " range has");
        int[][] due = {{16, 16}, {254, 254}, {255, 255}, {256, 0}, {257, 1}, {509, 253}};
        for (int[] row : due) {
            Net x = new Net();
            x.join(9, -1);
            Steps.ticks(x, row[0]);
            Due.is("at CLOCK " + row[0] + ": refresh(9)", x.refresh(9), row[1]);
        }
    }

    private static void targetGoesAroundFourNumbers() {
        Due.shows("Promise 5", "the remainder of CLOCK divided by how many numbers that range has",
                "four");
        for (int ticks = 16; ticks <= 20; ticks++) {
            Net x = Steps.host(0, 1, 2, 3, 4);
            Due.is("buckets(0)", x.buckets(0), 7);
            Steps.ticks(x, ticks);
            Due.is("at CLOCK " + ticks + ": refresh(0)", x.refresh(0), ticks % 4);
            Due.is("at CLOCK " + ticks + ": target", x.datagram(0, 4), ticks % 4);
        }
    }

    private static void targetIsInTheUpperHalf() {
        Due.shows("Promise 5", "the first number of the first such bucket's range .. plus the"
                + " remainder");
        int[][] due = {{126, 254}, {127, 255}, {128, 128}, {129, 129}};
        for (int[] row : due) {
            Net x = twoBuckets();
            Steps.ticks(x, 120);
            touchLower(x);
            Steps.ticks(x, row[0] - 120);
            Due.is("at CLOCK " + row[0] + ": refresh(200)", x.refresh(200), row[1]);
        }
    }

    private static void refreshBeginsAFind() {
        Due.shows("Promise 5", "p begins a FIND");
        Net x = Steps.host(9, 100);
        Steps.ticks(x, 16);
        Due.is("refresh(9)", x.refresh(9), 16);
        Due.is("lookup(9)", x.lookup(9), 1);
        Steps.areCandidates("it asks", x, 9, 100 + ASKED);
        Due.is("waiting()", x.waiting(), 1);
        Steps.isDatagram("it asks", x, 0, 0, 9, 100, 2, 16);
        Due.is("bucket(9, 0)", x.bucket(9, 0), 256);
    }

    private static void refreshWithoutContactsHasEnded() {
        Due.shows("Promise 5", "(also without contacts: then it has ended at once)");
        Net x = new Net();
        x.join(9, -1);
        Steps.ticks(x, 16);
        Due.is("refresh(9)", x.refresh(9), 16);
        Due.is("lookup(9)", x.lookup(9), 2);
        Steps.areCandidates("none", x, 9);
        Due.is("waiting()", x.waiting(), 0);
        Due.is("touched now: refresh(9)", x.refresh(9), -1);
        Steps.ticks(x, 15);
        Due.is("15 ticks later: refresh(9)", x.refresh(9), -1);
        x.tick();
        Due.is("16 ticks later: refresh(9)", x.refresh(9), 32);
    }

    private static void refreshWaitsForTheEnd() {
        Due.shows("Promise 5", "its lookup is not running");
        Net x = twoBuckets();
        Steps.ticks(x, 20);
        x.begin(200, 1, 0);
        Due.is("running: refresh(200)", x.refresh(200), -1);
        Steps.silentTicks(x, 7);
        Due.is("still running: refresh(200)", x.refresh(200), -1);
        Due.is("the last fails: tick()", x.tick(), 1);
        Due.is("ended: refresh(200)", x.refresh(200), 128 + 28);
    }

    private static void refreshNeedsOneThatIsUp() {
        Due.shows("Promise 5", "If p is up");
        Net x = new Net();
        x.join(9, -1);
        Steps.ticks(x, 16);
        x.leave(9);
        Due.is("left: refresh(9)", x.refresh(9), -1);
        Due.is("never joined: refresh(8)", x.refresh(8), -1);
        Due.is("refresh(-1)", x.refresh(-1), -1);
        Due.is("refresh(256)", x.refresh(256), -1);
        x.join(9, -1);
        Due.is("joined now: refresh(9)", x.refresh(9), -1);
        Steps.ticks(x, 15);
        Due.is("joined 15 ticks ago: refresh(9)", x.refresh(9), -1);
        x.tick();
        Due.is("joined 16 ticks ago: refresh(9)", x.refresh(9), 32);
        Net y = twoBuckets();
        Steps.ticks(y, 16);
        y.leave(200);
        y.join(200, -1);
        Due.is("its former buckets are gone: refresh(200)", y.refresh(200), -1);
    }

    private static void fourTicksAgo() {
        Due.shows("Promise 6", "each candidate that is ASKED and was asked 4 or more ticks ago"
                + " becomes FAILED");
        Net x = new Net();
        x.join(0, -1);
        x.join(1, 0);
        for (int i = 1; i <= 3; i++) {
            Due.is("tick() " + i, x.tick(), 0);
            Steps.areCandidates(i + " ticks ago", x, 1, 0 + ASKED);
            Due.is(i + " ticks ago: lookup(1)", x.lookup(1), 1);
            Steps.areContacts(i + " ticks ago", x, 1, 0, 0);
        }
        Due.is("tick() 4", x.tick(), 1);
        Steps.areCandidates("4 ticks ago", x, 1, 0 + FAILED);
        Due.is("4 ticks ago: lookup(1)", x.lookup(1), 2);
        Steps.areContacts("4 ticks ago", x, 1, 0, 0 + 256);
        Due.is("tick() 5", x.tick(), 0);
        Steps.areContacts("5 ticks ago", x, 1, 0, 0 + 256);
    }

    private static void askedLaterFailsLater() {
        Due.shows("Promise 6", "was asked 4 or more ticks ago", "each from when it was asked");
        Net x = Steps.host(0, 1, 2, 3);
        Steps.silentTicks(x, 4);
        x.begin(0, 0, 0);
        Steps.ticks(x, 2);
        x.deliver(0);
        x.deliver(1);
        Steps.dropAll(x);
        Steps.areCandidates("3 is asked two ticks behind 2", x, 0,
                1 + ANSWERED, 2 + ASKED, 3 + ASKED);
        Due.is("the third tick", x.tick(), 0);
        Due.is("the fourth tick", x.tick(), 1);
        Steps.areCandidates("2 failed", x, 0, 1 + ANSWERED, 2 + FAILED, 3 + ASKED);
        Due.is("the fifth tick", x.tick(), 0);
        Due.is("the sixth tick", x.tick(), 1);
        Steps.areCandidates("3 failed", x, 0, 1 + ANSWERED, 2 + FAILED, 3 + FAILED);
        Due.is("lookup(0)", x.lookup(0), 2);
    }

    private static void answeredDoesNotFail() {
        Due.shows("Promise 6", "each candidate that is ASKED", "no other becomes FAILED");
        Net x = Steps.host(0, 1, 2, 3);
        Steps.silentTicks(x, 4);
        x.begin(0, 0, 0);
        x.deliver(0);
        x.deliver(1);
        x.deliver(0);
        x.deliver(1);
        Steps.dropAll(x);
        Steps.areCandidates("one is left", x, 0, 1 + ANSWERED, 2 + ANSWERED, 3 + ASKED);
        Steps.ticks(x, 3);
        Due.is("tick()", x.tick(), 1);
        Steps.areCandidates("it alone failed", x, 0, 1 + ANSWERED, 2 + ANSWERED, 3 + FAILED);
    }

    private static void tickCountsAllThatFailed() {
        Due.shows("Promise 6", "Answers how many candidates became FAILED");
        for (int n = 0; n <= 3; n++) {
            Net x = new Net();
            x.join(0, -1);
            for (int guest = 1; guest <= n; guest++) {
                x.join(guest, 0);
            }
            Steps.ticks(x, 3);
            Due.is(n + " wait in vain: tick()", x.tick(), n);
        }
        Net y = Steps.host(0, 1, 2, 3);
        y.begin(0, 0, 0);
        Steps.ticks(y, 3);
        Due.is("three wait for one, one waits for two: tick()", y.tick(), 5);
        Steps.ticks(y, 3);
        Due.is("its third: tick()", y.tick(), 1);
        Due.is("none is left: tick()", y.tick(), 0);
    }

    private static void tickWithoutALookup() {
        Due.shows("Promise 6", "for each peer that is up .. whose lookup is running");
        Net x = new Net();
        Due.is("without peers: tick()", x.tick(), 0);
        x.join(0, -1);
        Due.is("without a lookup: tick()", x.tick(), 0);
        Due.is("lookup(0)", x.lookup(0), 0);
        x.begin(0, 2, 5);
        Due.is("with one that ended: tick()", x.tick(), 0);
        Due.is("lookup(0)", x.lookup(0), 2);
        // An ANNOUNCE that has ended sends its STOREs once.
        Steps.joinAndFind(x, 1, 0);
        Steps.announce(x, 1, 5);
        Steps.ticks(x, 8);
        Due.is("waiting()", x.waiting(), 0);
    }

    private static void leastNumberFirst() {
        Due.shows("Promise 6", "for each peer that is up, the least number first");
        Net x = Steps.host(50, 60, 70, 80);
        // 255 and then 0 hear of all from 50.
        Steps.joinAndFind(x, 255, 50);
        Steps.joinAndFind(x, 0, 50);
        Steps.silentTicks(x, 16);
        x.begin(255, 0, 255);
        x.begin(50, 0, 50);
        x.begin(0, 0, 0);
        Steps.dropAll(x);
        Due.is("three ticks", x.tick() + x.tick() + x.tick(), 0);
        Due.is("tick()", x.tick(), 6);
        Due.is("waiting()", x.waiting(), 3);
        int[] senders = {0, 50, 255};
        for (int k = 0; k < 3; k++) {
            Due.is("sender " + k, x.datagram(k, 1), senders[k]);
        }
    }

    private static void onlyContactsMiss() {
        Due.shows("Promise 6", "if it is a contact of that peer's table, it gets one miss more");
        // 4 tells 0 of 5, which is not up: 5 is a candidate of 0, but no contact.
        Net x = Steps.host(0, 4);
        Steps.see(x, 4, 5);
        x.leave(5);
        Steps.silentTicks(x, 4);
        x.begin(0, 0, 5);
        Steps.deliverAll(x);
        Steps.areCandidates("5 is asked", x, 0, 5 + ASKED, 4 + ANSWERED);
        Steps.ticks(x, 3);
        Due.is("tick()", x.tick(), 1);
        Steps.areCandidates("5 failed", x, 0, 5 + FAILED, 4 + ANSWERED);
        Steps.areContacts("no contact by that, no miss", x, 0, 0, 4);
        x.begin(0, 0, 4);
        Steps.silentTicks(x, 4);
        Steps.areContacts("a contact", x, 0, 0, 4 + 256);
    }

    private static void missesAddUp() {
        Due.shows("Promise 6", "it gets one miss more");
        Net x = Steps.host(0, 1);
        Steps.see(x, 1, 2);
        Steps.silentTicks(x, 4);
        for (int misses = 0; misses <= 4; misses++) {
            Steps.areContacts(misses + " misses", x, 0, 0, 1 + 256 * misses);
            x.begin(0, 0, 0);
            Steps.silentTicks(x, 4);
        }
        Steps.areContacts("its own miss alone", x, 2, 0, 1 + 256);
    }

    private static void tickLeavesOutWhoIsNotUp() {
        Due.shows("Promise 6", "for each peer that is up");
        Net x = Steps.host(0, 1, 2, 3);
        Steps.silentTicks(x, 4);
        x.begin(0, 0, 0);
        x.begin(1, 0, 0);
        Steps.dropAll(x);
        x.leave(0);
        Steps.ticks(x, 3);
        Due.is("1 alone waits in vain: tick()", x.tick(), 1);
        Due.is("nothing is sent: waiting()", x.waiting(), 0);
        x.join(0, -1);
        Due.is("up again without a lookup: tick()", x.tick(), 0);
        Due.is("lookup(0)", x.lookup(0), 0);
        Net y = Steps.host(0, 1, 2, 3);
        Steps.silentTicks(y, 4);
        y.begin(0, 0, 0);
        y.leave(0);
        y.join(0, 1);
        Steps.ticks(y, 3);
        Due.is("of two asked before and one asked now: tick()", y.tick(), 1);
    }

    private static void twoThatFailMakeWayForTwo() {
        Due.shows("Promise 6", "after them the lookup goes on");
        // 0 asks 128 and 64 for 255, and 128 tells of 255, 254 and 253.
        Net x = Steps.host(0, 128, 64, 32);
        int[] told = {255, 254, 253};
        for (int guest : told) {
            Steps.see(x, 128, guest);
        }
        Steps.silentTicks(x, 4);
        x.begin(0, 0, 255);
        x.deliver(0);
        x.deliver(1);
        Steps.dropAll(x);
        Steps.areCandidates("told", x, 0,
                255 + ASKED, 254, 253, 128 + ANSWERED, 64 + ASKED, 32);
        Steps.ticks(x, 3);
        Due.is("two fail: tick()", x.tick(), 2);
        Steps.areCandidates("two fail, two are asked", x, 0,
                255 + FAILED, 254 + ASKED, 253 + ASKED, 128 + ANSWERED, 64 + FAILED, 32);
        Due.is("waiting()", x.waiting(), 2);
        Due.is("the closer first", x.datagram(0, 2), 254);
        Due.is("the other then", x.datagram(1, 2), 253);
        Steps.silentTicks(x, 3);
        Due.is("two more fail: tick()", x.tick(), 2);
        Steps.areCandidates("one is left to ask", x, 0, 255 + FAILED, 254 + FAILED,
                253 + FAILED, 128 + ANSWERED, 64 + FAILED, 32 + ASKED);
        Due.is("lookup(0)", x.lookup(0), 1);
    }

    private static void refreshOfInnerBuckets() {
        Due.shows("Promise 5", "the first such bucket's range .. how many numbers that range has");
        Net x = new Net();
        x.join(16, -1);
        int[] guests = {17, 18, 20, 24};
        for (int guest : guests) {
            Steps.see(x, 16, guest);
        }
        Due.is("stale: buckets(16)", x.buckets(16), 6);
        Steps.silentTicks(x, 20);
        Due.is("stale: refresh(16)", x.refresh(16), 20 % 16);
        Due.is("stale: serial", x.datagram(0, 3), 5);
        Due.is("stale: kind", x.datagram(0, 0), 0);
        Due.is("stale: target", x.datagram(0, 4), 4);
        Due.is("stale: bucket(16, 0)", x.bucket(16, 0), 0);
        Due.is("running: refresh(16)", x.refresh(16), -1);
        Steps.silentTicks(x, 8);
        Due.is("stale: lookup(16)", x.lookup(16), 2);
        Due.is("next: refresh(16)", x.refresh(16), 16 + 28 % 8);
        Steps.silentTicks(x, 8);
        Due.is("the first again: refresh(16)", x.refresh(16), 36 % 16);
        Steps.silentTicks(x, 8);
        Due.is("the second again: refresh(16)", x.refresh(16), 16 + 44 % 8);
        Steps.silentTicks(x, 8);
        int[] targets = {0, 16, 24};
        for (int target : targets) {
            x.begin(16, 0, target);
            Steps.deliverAll(x);
        }
        Due.is("the fourth: refresh(16)", x.refresh(16), 32 + 52 % 32);
    }
}
