/** The bounds that Terms name for lookups, and promises 4, 13 and 14. */
public final class LookupsTest {
    private static final int ASKED = 256;
    private static final int ANSWERED = 512;
    private static final int FAILED = 768;

    private LookupsTest() {
    }

    public static void main(String[] args) {
        kindsAre0To2();
        targetsAre0To255();
        runningCannotBegin();
        withoutContactsItHasEnded();
        threeContactsAreCandidates();
        beginTouchesTheBucketOfTheTarget();
        serialsCountFromOne();
        formerLookupIsForgotten();
        twoAreAskedAtOnce();
        fourthIsNotAsked();
        failedGivesItsPlace();
        askedIsWaitedForBehindTheThird();
        storesGoToThreeAtMost();
        noStoreWhenAllFailed();
        toldOnesComeInOrder();
        toldAgainStayAsTheyAre();
        toldAgainStayFailed();
        answerWithoutALookup();
        answerToAnEndedLookup();
        answerToAnotherLookup();
        answerOfAFailedOne();
        candidateHasAPlace();
        elevenCandidates();
        foundHasAPlace();
        foundOnce();
        twelveFound();
        noOtherContactComesIn();
        storesPassOverTheFailed();
        Due.end();
    }

    /** 0 knows 1, 2 and 4; 4 knows 0, 5 and 7. Serials 1 to 5 are used up, no lookup runs. */
    private static Net small() {
        Net x = Steps.host(0, 1, 2, 4);
        Steps.see(x, 4, 5);
        Steps.see(x, 4, 7);
        Steps.silentTicks(x, 4);
        return x;
    }

    private static void kindsAre0To2() {
        Due.shows("Promise 4", "a lookup of the kind (0 FIND, 1 GET, 2 ANNOUNCE) .. false,"
                + " refused, when .. the kind is none of these");
        Net x = Steps.host(0, 1);
        Due.is("begin(0, -1, 5)", x.begin(0, -1, 5), false);
        Due.is("begin(0, 3, 5)", x.begin(0, 3, 5), false);
        Due.is("refused: lookup(0)", x.lookup(0), 0);
        for (int kind = 0; kind <= 2; kind++) {
            Due.is("begin(0, " + kind + ", 5)", x.begin(0, kind, 5), true);
            Due.is("kind of the datagram", x.datagram(0, 0), kind == 1 ? 1 : 0);
            Steps.silentTicks(x, 4);
        }
    }

    private static void targetsAre0To255() {
        Due.shows("Promise 4", "or the target is no number; NUMBERS are 0 .. 255; they name .."
                + " keys");
        Net x = Steps.host(0, 1);
        for (int kind = 0; kind <= 2; kind++) {
            Due.is("begin(0, " + kind + ", -1)", x.begin(0, kind, -1), false);
            Due.is("begin(0, " + kind + ", 256)", x.begin(0, kind, 256), false);
            Due.is("begin(0, " + kind + ", 0)", x.begin(0, kind, 0), true);
            Due.is("target of the datagram", x.datagram(0, 4), 0);
            Steps.silentTicks(x, 4);
            Due.is("begin(0, " + kind + ", 255)", x.begin(0, kind, 255), true);
            Due.is("target of the datagram", x.datagram(0, 4), 255);
            Steps.silentTicks(x, 4);
        }
    }

    private static void runningCannotBegin() {
        Due.shows("Promise 4", "false, refused, when p is not up, its lookup is running");
        Net x = new Net();
        x.join(0, -1);
        Due.is("never joined: begin(1, 0, 5)", x.begin(1, 0, 5), false);
        x.join(1, 0);
        Due.is("that of the join runs: begin(1, 0, 5)", x.begin(1, 0, 5), false);
        x.deliver(0);
        Due.is("the answer waits: begin(1, 0, 5)", x.begin(1, 0, 5), false);
        x.deliver(0);
        Due.is("ended: begin(1, 0, 5)", x.begin(1, 0, 5), true);
        Due.is("runs: begin(1, 0, 5)", x.begin(1, 0, 5), false);
        Due.is("another's runs: begin(0, 0, 5)", x.begin(0, 0, 5), true);
        Steps.silentTicks(x, 3);
        Due.is("not yet failed: begin(1, 0, 5)", x.begin(1, 0, 5), false);
        x.tick();
        Due.is("failed, ended: begin(1, 0, 5)", x.begin(1, 0, 5), true);
        x.leave(1);
        Due.is("left: begin(1, 0, 5)", x.begin(1, 0, 5), false);
        Due.is("begin(-1, 0, 5)", x.begin(-1, 0, 5), false);
        Due.is("begin(256, 0, 5)", x.begin(256, 0, 5), false);
        x.join(1, -1);
        Due.is("anew, none runs: begin(1, 0, 5)", x.begin(1, 0, 5), true);
    }

    private static void withoutContactsItHasEnded() {
        Due.shows("Promise 4", "(without contacts it has ended at once)");
        for (int kind = 0; kind <= 2; kind++) {
            Net x = new Net();
            x.join(3, -1);
            Due.is("begin(3, " + kind + ", 3)", x.begin(3, kind, 3), true);
            Due.is("lookup(3)", x.lookup(3), 2);
            Steps.areCandidates("none", x, 3);
            Steps.areFound("none", x, 3);
            Due.is("waiting()", x.waiting(), 0);
            Due.is("begin(3, " + kind + ", 3) again", x.begin(3, kind, 3), true);
            Due.is("tick()", x.tick(), 0);
        }
    }

    private static void threeContactsAreCandidates() {
        Due.shows("Promise 13", "its candidates are the three contacts of p's table closest to"
                + " the target (or as many as there are), all NEW .. fewer than two candidates"
                + " are ASKED");
        int[] guests = {3, 200, 2, 1};
        // Distances from 4: 1 has 5, 2 has 6, 3 has 7, 200 has 204.
        int[][] due = {
            {}, {3 + ASKED}, {3 + ASKED, 200 + ASKED}, {2 + ASKED, 3 + ASKED, 200},
            {1 + ASKED, 2 + ASKED, 3},
        };
        for (int n = 0; n <= 4; n++) {
            Net x = new Net();
            x.join(128, -1);
            for (int i = 0; i < n; i++) {
                Steps.see(x, 128, guests[i]);
            }
            x.begin(128, 0, 4);
            Steps.areCandidates(n + " contacts", x, 128, due[n]);
            Due.is(n + " contacts: waiting()", x.waiting(), Math.min(n, 2));
            Due.is(n + " contacts: lookup(128)", x.lookup(128), n == 0 ? 2 : 1);
        }
    }

    private static void beginTouchesTheBucketOfTheTarget() {
        Due.shows("Promise 4", "the bucket of p's table whose range has the target is touched");
        int[][] due = {{0, 0}, {127, 0}, {128, 1}, {255, 1}};
        for (int[] row : due) {
            Net x = Steps.host(0, 1, 2, 200, 4);
            Steps.ticks(x, 2);
            x.begin(0, 0, row[0]);
            Due.is("for " + row[0] + ": bucket(0, 0)", x.bucket(0, 0),
                    256 * 3 + 1024 * 2 * row[1]);
            Due.is("for " + row[0] + ": bucket(0, 1)", x.bucket(0, 1),
                    128 + 256 + 1024 * 2 * (1 - row[1]));
        }
    }

    private static void serialsCountFromOne() {
        Due.shows("Promise 4", "a serial (1 for the first lookup that any peer begins, then one"
                + " more each time)");
        Net x = new Net();
        x.join(0, -1);
        x.join(1, 0);
        Due.is("of the first, by a join", x.datagram(0, 3), 1);
        x.begin(0, 0, 0);
        x.begin(0, 1, 0);
        x.join(2, 0);
        Due.is("behind two without contacts", x.datagram(1, 3), 4);
        x.begin(2, 0, 0);
        x.join(2, 0);
        x.begin(0, 3, 0);
        x.begin(0, 0, 256);
        x.refresh(0);
        x.join(3, 0);
        Due.is("behind refused ones", x.datagram(2, 3), 5);
        Steps.silentTicks(x, 16);
        Due.is("refresh(0)", x.refresh(0), 16);
        x.begin(3, 1, 0);
        Due.is("behind a refresh without contacts", x.datagram(0, 3), 7);
        Due.is("refresh(2)", x.refresh(2), 16);
        Due.is("of a refresh", x.datagram(1, 3), 8);
    }

    private static void formerLookupIsForgotten() {
        Due.shows("Promise 4", "A lookup that was there before is forgotten");
        Net x = small();
        x.begin(0, 2, 5);
        Steps.deliverAll(x);
        Due.is("before: candidate(0, 4)", x.candidate(0, 4), 2);
        x.begin(0, 1, 5);
        Steps.areCandidates("three anew", x, 0, 5 + ASKED, 4 + ASKED, 7);
        Steps.deliverAll(x);
        Due.is("before: found(0, 0)", x.found(0, 0), 0);
        x.begin(0, 0, 5);
        Steps.areFound("nothing has been found", x, 0);
    }

    private static void twoAreAskedAtOnce() {
        Due.shows("Promise 13", "as long as fewer than two candidates are ASKED");
        Net x = small();
        x.begin(0, 0, 3);
        Steps.areCandidates("two of three", x, 0, 2 + ASKED, 1 + ASKED, 4);
        Due.is("two of three: waiting()", x.waiting(), 2);
        Due.is("the closest first", x.datagram(0, 2), 2);
        Due.is("the second then", x.datagram(1, 2), 1);
        x.deliver(0);
        Steps.areCandidates("not answered yet", x, 0, 2 + ASKED, 1 + ASKED, 4);
        x.deliver(1);
        Steps.areCandidates("one answered", x, 0, 2 + ANSWERED, 1 + ASKED, 4 + ASKED);
        Due.is("one answered: waiting()", x.waiting(), 2);
        Steps.isDatagram("one more is asked", x, 1, 0, 0, 4, 6, 3);
    }

    private static void fourthIsNotAsked() {
        Due.shows("Promise 13", "one of the first three candidates that are not FAILED is NEW");
        Net x = small();
        x.begin(0, 0, 5);
        x.deliver(0);
        x.deliver(1);
        Steps.areCandidates("5 and 7 are told", x, 0, 5 + ASKED, 4 + ANSWERED, 7, 1 + ASKED, 2);
        Steps.deliverAll(x);
        Steps.areCandidates("ended", x, 0,
                5 + ANSWERED, 4 + ANSWERED, 7 + ANSWERED, 1 + ANSWERED, 2);
        Due.is("the last stays NEW: lookup(0)", x.lookup(0), 2);
        Due.is("the last stays NEW: waiting()", x.waiting(), 0);
    }

    private static void failedGivesItsPlace() {
        Due.shows("Promise 13", "the first three candidates that are not FAILED");
        Net x = small();
        x.leave(7);
        x.begin(0, 0, 5);
        Steps.deliverAll(x);
        Steps.areCandidates("one is silent", x, 0,
                5 + ANSWERED, 4 + ANSWERED, 7 + ASKED, 1 + ANSWERED, 2);
        Steps.ticks(x, 4);
        // 5, 4 and 1 are the first three now, and 2 is the fourth.
        Steps.areCandidates("it failed", x, 0,
                5 + ANSWERED, 4 + ANSWERED, 7 + FAILED, 1 + ANSWERED, 2);
        Due.is("it failed: lookup(0)", x.lookup(0), 2);
        Net y = small();
        y.leave(5);
        y.leave(7);
        y.begin(0, 0, 5);
        Steps.deliverAll(y);
        Steps.ticks(y, 4);
        // 4, 1 and 2 are the first three now.
        Steps.areCandidates("two failed", y, 0,
                5 + FAILED, 4 + ANSWERED, 7 + FAILED, 1 + ANSWERED, 2 + ASKED);
        Due.is("two failed: lookup(0)", y.lookup(0), 1);
    }

    private static void askedIsWaitedForBehindTheThird() {
        Due.shows("Promise 12", "After that, if no candidate is ASKED, the lookup has ENDED");
        Net x = small();
        x.begin(0, 0, 5);
        x.drop(1);
        Steps.deliverAll(x);
        Steps.areCandidates("the fourth is silent", x, 0,
                5 + ANSWERED, 4 + ANSWERED, 7 + ANSWERED, 1 + ASKED, 2);
        Due.is("the fourth is silent: lookup(0)", x.lookup(0), 1);
        Steps.ticks(x, 3);
        Due.is("three ticks later: lookup(0)", x.lookup(0), 1);
        Due.is("tick()", x.tick(), 1);
        Due.is("four ticks later: lookup(0)", x.lookup(0), 2);
        Due.is("the fifth was not asked", x.candidate(0, 4), 2);
    }

    private static void storesGoToThreeAtMost() {
        Due.shows("Promise 4", "to each of the first three candidates that are not FAILED (or as"
                + " many as there are), closest first");
        for (int n = 1; n <= 3; n++) {
            Net x = new Net();
            x.join(0, -1);
            for (int guest = 1; guest <= n; guest++) {
                Steps.see(x, 0, guest);
            }
            x.begin(0, 2, 0);
            for (int i = 0; i < 2 * n; i++) {
                Due.is("no STORE before its end", x.datagram(0, 0) != 3, true);
                x.deliver(0);
            }
            Due.is(n + " answered: lookup(0)", x.lookup(0), 2);
            Due.is(n + " answered: waiting()", x.waiting(), n);
            for (int k = 0; k < n; k++) {
                Due.is(n + " answered: kind", x.datagram(k, 0), 3);
                Due.is(n + " answered: receiver", x.datagram(k, 2), k + 1);
            }
        }
        Net y = small();
        y.begin(0, 2, 5);
        for (int i = 0; i < 8; i++) {
            y.deliver(0);
        }
        Steps.areCandidates("four answered", y, 0,
                5 + ANSWERED, 4 + ANSWERED, 7 + ANSWERED, 1 + ANSWERED, 2);
        Due.is("four answered: waiting()", y.waiting(), 3);
        Steps.isDatagram("the closest", y, 0, 3, 0, 5, 6, 5, 35670);
        Steps.isDatagram("the second", y, 1, 3, 0, 4, 6, 5, 60363);
        Steps.isDatagram("the third", y, 2, 3, 0, 7, 6, 5, 49453);
    }

    private static void noStoreWhenAllFailed() {
        Due.shows("Promise 4", "candidates that are not FAILED (or as many as there are)");
        Net x = Steps.host(0, 1, 2);
        Steps.silentTicks(x, 4);
        x.begin(0, 2, 0);
        Steps.silentTicks(x, 3);
        Due.is("lookup(0), three ticks", x.lookup(0), 1);
        Due.is("tick()", x.tick(), 2);
        Due.is("lookup(0), four ticks", x.lookup(0), 2);
        Steps.areCandidates("all failed", x, 0, 1 + FAILED, 2 + FAILED);
        Due.is("waiting()", x.waiting(), 0);
        Net y = Steps.host(0, 1, 2);
        Steps.silentTicks(y, 4);
        y.begin(0, 2, 0);
        y.drop(0);
        y.deliver(0);
        y.deliver(0);
        Steps.ticks(y, 4);
        Steps.areCandidates("one failed", y, 0, 1 + FAILED, 2 + ANSWERED);
        Due.is("one failed: waiting()", y.waiting(), 1);
        Due.is("one failed: receiver", y.datagram(0, 2), 2);
    }

    private static void toldOnesComeInOrder() {
        Due.shows("Promise 13", "each contact of the datagram that is not a candidate becomes"
                + " one, and is NEW .. always in the order of their distances from the target");
        // 0 knows 8 alone; 8 tells of 9, of 10 and of 40.
        Net x = Steps.host(0, 8);
        Steps.see(x, 8, 40);
        Steps.see(x, 8, 10);
        Steps.see(x, 8, 9);
        Steps.silentTicks(x, 4);
        int[][] due = {
            // Target, then who comes in which order by distance from it.
            {8, 8 + ANSWERED, 9 + ASKED, 10 + ASKED, 40},
            {9, 9 + ASKED, 8 + ANSWERED, 10 + ASKED, 40},
            {42, 40 + ASKED, 10 + ASKED, 8 + ANSWERED, 9},
            {41, 40 + ASKED, 9 + ASKED, 8 + ANSWERED, 10},
            {43, 40 + ASKED, 10 + ASKED, 9, 8 + ANSWERED},
        };
        for (int[] row : due) {
            x.leave(0);
            x.join(0, 8);
            Steps.silentTicks(x, 4);
            x.begin(0, 0, row[0]);
            x.deliver(0);
            x.deliver(0);
            Steps.areCandidates("for " + row[0], x, 0, row[1], row[2], row[3], row[4]);
            Due.is("for " + row[0] + ": waiting()", x.waiting(), 2);
            Due.is("for " + row[0] + ": 40 is no contact by that", x.closest(0, 40, 1), -1);
        }
    }

    private static void toldAgainStayAsTheyAre() {
        Due.shows("Promise 13", "each contact of the datagram that is not a candidate");
        // 1 knows 0 and 2, and 2 knows 1.
        Net x = Steps.host(0, 1, 2);
        Steps.see(x, 1, 2);
        Steps.silentTicks(x, 4);
        x.begin(0, 0, 0);
        x.deliver(0);
        Due.is("1 tells of 2", x.datagram(1, 6), 2);
        x.deliver(1);
        Steps.areCandidates("2 was asked already", x, 0, 1 + ANSWERED, 2 + ASKED);
        x.deliver(0);
        Due.is("2 tells of 1", x.datagram(0, 6), 1);
        x.deliver(0);
        Steps.areCandidates("1 has answered already", x, 0, 1 + ANSWERED, 2 + ANSWERED);
        Due.is("waiting()", x.waiting(), 0);
        // 1 knows 0, 2 and 3 too: a third that is NEW is told of.
        Net y = Steps.host(0, 1, 2, 3);
        Steps.see(y, 1, 3);
        Steps.silentTicks(y, 4);
        y.begin(0, 0, 0);
        y.deliver(0);
        Due.is("1 tells of 3", y.datagram(1, 6), 3);
        Steps.areCandidates("3 is new", y, 0, 1 + ASKED, 2 + ASKED, 3);
        y.deliver(1);
        Steps.areCandidates("3 is there once", y, 0, 1 + ANSWERED, 2 + ASKED, 3 + ASKED);
    }

    private static void toldAgainStayFailed() {
        Due.shows("Promise 13", "each contact .. that is not a candidate", "one FAILED is one");
        Net x = Steps.host(0, 1, 2, 3);
        Steps.see(x, 3, 1);
        Steps.see(x, 3, 2);
        Steps.silentTicks(x, 4);
        x.begin(0, 0, 0);
        Steps.dropAll(x);
        Steps.ticks(x, 4);
        Steps.areCandidates("two failed", x, 0, 1 + FAILED, 2 + FAILED, 3 + ASKED);
        x.deliver(0);
        Due.is("3 tells of 1", x.datagram(0, 6), 1);
        Due.is("3 tells of 2", x.datagram(0, 7), 2);
        x.deliver(0);
        Steps.areCandidates("they stay so", x, 0, 1 + FAILED, 2 + FAILED, 3 + ANSWERED);
        Due.is("lookup(0)", x.lookup(0), 2);
        Due.is("waiting()", x.waiting(), 0);
    }

    /** 0 has answered the FIND of 1, and its NODES wait. */
    private static Net answered() {
        Net x = new Net();
        x.join(0, -1);
        x.join(1, 0);
        x.deliver(0);
        return x;
    }

    private static void answerWithoutALookup() {
        Due.shows("Promise 10", "NODES: if r has a lookup .. Otherwise nothing more happens");
        Net x = answered();
        x.leave(1);
        x.join(1, -1);
        Due.is("deliver(0)", x.deliver(0), 1);
        Due.is("lookup(1)", x.lookup(1), 0);
        Due.is("candidate(1, 0)", x.candidate(1, 0), -1);
        Steps.areContacts("the sender is seen", x, 1, 0, 0);
        Due.is("waiting()", x.waiting(), 0);
    }

    private static void answerToAnEndedLookup() {
        Due.shows("Promise 10", "NODES: if r has a lookup that is running .. Otherwise nothing"
                + " more happens");
        Net x = answered();
        Steps.ticks(x, 4);
        Due.is("lookup(1)", x.lookup(1), 2);
        Steps.areContacts("a miss", x, 1, 0, 0 + 256);
        Due.is("deliver(0)", x.deliver(0), 1);
        Steps.areCandidates("too late", x, 1, 0 + FAILED);
        Due.is("lookup(1)", x.lookup(1), 2);
        Steps.areContacts("the sender is seen", x, 1, 0, 0);
        Net y = answered();
        Steps.ticks(y, 3);
        y.deliver(0);
        Steps.areCandidates("just in time", y, 1, 0 + ANSWERED);
        // An ANNOUNCE that ended in vain sends no STORE when the answer comes after all.
        Net z = answered();
        z.deliver(0);
        z.begin(1, 2, 9);
        z.deliver(0);
        Steps.ticks(z, 4);
        z.deliver(0);
        Due.is("no STORE: waiting()", z.waiting(), 0);
    }

    private static void answerToAnotherLookup() {
        Due.shows("Promise 10", "NODES: if r has a lookup that .. has that serial .. Otherwise"
                + " nothing more happens");
        Net x = answered();
        x.leave(1);
        x.join(1, 0);
        Due.is("deliver(0)", x.deliver(0), 1);
        Due.is("lookup(1)", x.lookup(1), 1);
        Steps.areCandidates("that of the former lookup", x, 1, 0 + ASKED);
        Due.is("waiting()", x.waiting(), 1);
        x.deliver(0);
        x.deliver(0);
        Steps.areCandidates("that of the lookup", x, 1, 0 + ANSWERED);
        Due.is("lookup(1)", x.lookup(1), 2);
    }

    private static void answerOfAFailedOne() {
        Due.shows("Promise 10", "NODES: .. and s is one of its candidates and is ASKED .."
                + " Otherwise nothing more happens");
        Net x = small();
        x.begin(0, 0, 5);
        x.deliver(0);
        Steps.ticks(x, 4);
        Steps.areCandidates("failed", x, 0, 4 + FAILED, 1 + FAILED, 2 + ASKED);
        Due.is("the NODES of 4", x.datagram(1, 1), 4);
        x.deliver(1);
        Steps.areCandidates("it stays so, 5 and 7 are not taken", x, 0,
                4 + FAILED, 1 + FAILED, 2 + ASKED);
        Due.is("it is seen, its miss is gone", x.contact(0, 0, 2), 4);
        Due.is("lookup(0)", x.lookup(0), 1);
    }

    private static void candidateHasAPlace() {
        Due.shows("Promise 13", "Candidate j (0 is the closest) of p's lookup .. -1 when p is not"
                + " up, it has no lookup, or there is no such candidate");
        Net x = Steps.host(0, 1, 2, 3);
        Due.is("no lookup: candidate(0, 0)", x.candidate(0, 0), -1);
        x.begin(0, 0, 0);
        Due.is("candidate(0, -1)", x.candidate(0, -1), -1);
        Due.is("candidate(0, 0)", x.candidate(0, 0), 1 + ASKED);
        Due.is("candidate(0, 2)", x.candidate(0, 2), 3);
        Due.is("candidate(0, 3)", x.candidate(0, 3), -1);
        Due.is("candidate(-1, 0)", x.candidate(-1, 0), -1);
        Due.is("candidate(4, 0)", x.candidate(4, 0), -1);
        Due.is("candidate(256, 0)", x.candidate(256, 0), -1);
        x.leave(0);
        Due.is("left: candidate(0, 0)", x.candidate(0, 0), -1);
        x.join(0, -1);
        Due.is("anew: candidate(0, 0)", x.candidate(0, 0), -1);
    }

    private static void elevenCandidates() {
        Due.shows("Promise 13", "At most twelve different numbers may ever join",
                "all others may be candidates");
        // Each of 20, 80, 140 and 200 knows the next ones up to the next of these.
        Net x = Steps.host(0, 20);
        for (int host = 20; host <= 200; host += 60) {
            for (int guest = host + 20; guest <= Math.min(host + 60, 220); guest += 20) {
                Steps.see(x, host, guest);
            }
        }
        Steps.silentTicks(x, 4);
        x.begin(0, 0, 255);
        Steps.deliverAll(x);
        Due.is("lookup(0)", x.lookup(0), 2);
        for (int j = 0; j <= 10; j++) {
            Due.is("candidate(0, " + j + ")", x.candidate(0, j) & 255, 220 - 20 * j);
        }
        Due.is("candidate(0, 11)", x.candidate(0, 11), -1);
    }

    private static void foundHasAPlace() {
        Due.shows("Promise 14", "The j-th holder (from 0) that p's lookup has found; -1 when p is"
                + " not up, it has no lookup, or it has not found so many");
        Net x = new Net();
        x.join(0, -1);
        int[] announcers = {3, 2, 1};
        for (int p : announcers) {
            Steps.joinAndFind(x, p, 0);
            Steps.announceTo(x, 0, p, 0);
        }
        Due.is("no lookup: found(0, 0)", x.found(0, 0), -1);
        x.begin(2, 0, 0);
        Steps.deliverAll(x);
        Due.is("a FIND finds none: found(2, 0)", x.found(2, 0), -1);
        x.begin(2, 1, 1);
        Steps.deliverAll(x);
        Due.is("nothing for that key: found(2, 0)", x.found(2, 0), -1);
        x.begin(2, 1, 0);
        Due.is("not answered yet: found(2, 0)", x.found(2, 0), -1);
        Steps.deliverAll(x);
        Due.is("found(2, -1)", x.found(2, -1), -1);
        Due.is("found(2, 0)", x.found(2, 0), 3);
        Due.is("found(2, 1), itself", x.found(2, 1), 2);
        Due.is("found(2, 2)", x.found(2, 2), 1);
        Due.is("found(2, 3)", x.found(2, 3), -1);
        Due.is("found(-1, 0)", x.found(-1, 0), -1);
        Due.is("found(5, 0)", x.found(5, 0), -1);
        Due.is("found(256, 0)", x.found(256, 0), -1);
        x.leave(2);
        Due.is("left: found(2, 0)", x.found(2, 0), -1);
    }

    private static void foundOnce() {
        Due.shows("Promise 14", "each holder of the datagram, in order, that has not been found"
                + " by this lookup is added at the end of what it has found");
        Net x = new Net();
        x.join(0, -1);
        for (int p = 1; p <= 5; p++) {
            Steps.joinAndFind(x, p, 0);
        }
        // Which host has which holders; a host closer to the key 0 is asked earlier.
        int[][] stores = {
            {0, 3}, {0, 4}, {0, 5}, {1, 3}, {1, 2}, {1, 5}, {2, 4}, {2, 0}, {2, 1},
        };
        for (int i = 0; i < stores.length; i++) {
            Steps.announceTo(x, stores[i][0], stores[i][1], 0);
            Due.is("holder of " + stores[i][0], x.entry(stores[i][0], i % 3) >> 8 & 255,
                    stores[i][1]);
        }
        x.begin(5, 1, 0);
        Due.is("the first to be asked", x.datagram(0, 2), 0);
        Due.is("the second to be asked", x.datagram(1, 2), 1);
        Steps.deliverAll(x);
        Steps.areFound("each once", x, 5, 3, 4, 5, 2, 0, 1);
    }

    /** What is sent is dropped, but for STOREs, which are delivered. */
    private static void deliverStores(Net x) {
        for (int i = x.waiting(); i > 0; i--) {
            if (x.datagram(0, 0) == 3) {
                x.deliver(0);
            } else {
                x.drop(0);
            }
        }
    }

    private static void twelveFound() {
        Due.shows("Promise 14", "At most twelve different numbers may ever join",
                "all may be found");
        // Each announces itself to the one that it joined for; others are not reached.
        int[][] hosts = {
            {20, 60}, {80, 20}, {60, 80}, {40, 80}, {120, 80}, {100, 20}, {110, 20}, {130, 40},
            {140, 40}, {150, 40}, {160, 60}, {170, 60},
        };
        Net x = new Net();
        x.join(60, -1);
        for (int[] row : hosts) {
            x.leave(row[0]);
            x.join(row[0], row[1]);
        }
        Steps.silentTicks(x, 4);
        for (int[] row : hosts) {
            x.begin(row[0], 2, 0);
        }
        for (int i = 0; i < 24; i++) {
            x.deliver(0);
        }
        for (int i = 0; i < 13; i++) {
            deliverStores(x);
            x.tick();
        }
        x.leave(100);
        x.join(100, 80);
        Steps.silentTicks(x, 4);
        x.begin(100, 1, 0);
        Steps.deliverAll(x);
        int[] order = {80, 20, 40, 60};
        int sum = 0;
        for (int j = 0; j < 12; j++) {
            int holder = x.entry(order[j / 3], j % 3) >> 8 & 255;
            Due.is("found(100, " + j + ")", x.found(100, j), holder);
            sum += holder;
        }
        Due.is("found(100, 12)", x.found(100, 12), -1);
        Due.is("each of the twelve: their sum", sum, 1280);
    }

    private static void noOtherContactComesIn() {
        Due.shows("Promise 13", "its candidates are the three contacts of p's table closest to"
                + " the target", "no other contact comes in");
        Net x = new Net();
        x.join(0, -1);
        int[] guests = {1, 2, 200, 4, 210};
        for (int guest : guests) {
            Steps.see(x, 0, guest);
        }
        x.begin(0, 0, 3);
        Steps.areCandidates("three of five", x, 0, 2 + ASKED, 1 + ASKED, 4);
        Steps.silentTicks(x, 8);
        Steps.areCandidates("no others come in", x, 0, 2 + FAILED, 1 + FAILED, 4 + FAILED);
        Due.is("no others come in: lookup(0)", x.lookup(0), 2);
    }

    private static void storesPassOverTheFailed() {
        Due.shows("Promise 4", "the first three candidates that are not FAILED");
        Net x = small();
        x.leave(5);
        x.leave(7);
        x.begin(0, 2, 5);
        Steps.deliverAll(x);
        Steps.ticks(x, 4);
        Steps.areCandidates("skip", x, 0, 5 + FAILED, 4 + ANSWERED, 7 + FAILED,
                1 + ANSWERED, 2 + ASKED);
        x.deliver(0);
        x.deliver(0);
        Due.is("skip: lookup(0)", x.lookup(0), 2);
        Due.is("skip: waiting()", x.waiting(), 3);
        Due.is("skip: the first STORE", x.datagram(0, 2), 4);
        Due.is("skip: the second STORE", x.datagram(1, 2), 1);
        Due.is("skip: the third STORE", x.datagram(2, 2), 2);
    }
}
