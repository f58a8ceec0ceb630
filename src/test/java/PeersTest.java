/** The bounds that Terms and promises 1, 2, 3, 7 and 12 name for peers and for the clock. */
public final class PeersTest {
    private PeersTest() {
    }

    public static void main(String[] args) {
        nothingIsThereAtFirst();
        numbersAre0To255();
        viaIsMinusOneOrUp();
        viaIsNotItself();
        upCannotJoin();
        twelveMayJoin();
        joiningAnewTakesNoPlace();
        refusedOnesTakeNoPlace();
        oneOfTheTwelveMayJoinAgain();
        joinedAloneKnowsNobody();
        joinedViaSeesOne();
        joinedAnewBeginsAnew();
        leavingNeedsOneThatIsUp();
        datagramsStayInTheLine();
        datagramReachesOneUpAgain();
        notUpHasNothing();
        clockStartsAtNought();
        lastCallIsAnswered();
        lookupHasFourAnswers();
        objectsAreApart();
        Due.end();
    }

    private static void nothingIsThereAtFirst() {
        Due.shows("Promise 1", "No peer, no datagram; CLOCK 0");
        Net x = new Net();
        Due.is("clock()", x.clock(), 0);
        Due.is("waiting()", x.waiting(), 0);
        Due.is("datagram(0, 0)", x.datagram(0, 0), -1);
        Due.is("deliver(0)", x.deliver(0), -1);
        Due.is("drop(0)", x.drop(0), false);
        for (int p = -1; p <= 256; p++) {
            Due.is("lookup(" + p + ")", x.lookup(p), -1);
        }
        Due.is("tick()", x.tick(), 0);
        Due.is("waiting() after it", x.waiting(), 0);
    }

    private static void numbersAre0To255() {
        Due.shows("Promise 2", "NUMBERS are 0 .. 255; they name peers");
        Net x = new Net();
        Due.is("join(-1, -1)", x.join(-1, -1), false);
        Due.is("join(0, -1)", x.join(0, -1), true);
        Due.is("join(1, -1)", x.join(1, -1), true);
        Due.is("join(254, -1)", x.join(254, -1), true);
        Due.is("join(255, -1)", x.join(255, -1), true);
        Due.is("join(256, -1)", x.join(256, -1), false);
        Due.is("lookup(-1)", x.lookup(-1), -1);
        Due.is("lookup(0)", x.lookup(0), 0);
        Due.is("lookup(255)", x.lookup(255), 0);
        Due.is("lookup(256)", x.lookup(256), -1);
    }

    private static void viaIsMinusOneOrUp() {
        Due.shows("Promise 2", "when via is neither -1 nor a peer that is up");
        Net x = new Net();
        Due.is("join(0, -2)", x.join(0, -2), false);
        Due.is("join(0, -1)", x.join(0, -1), true);
        Due.is("join(255, 1)", x.join(255, 1), false);
        Due.is("join(255, 0)", x.join(255, 0), true);
        Due.is("join(1, 254)", x.join(1, 254), false);
        Due.is("join(1, 256)", x.join(1, 256), false);
        Due.is("join(1, 255)", x.join(1, 255), true);
        x.leave(255);
        Due.is("join(2, 255) when 255 has left", x.join(2, 255), false);
        x.join(255, -1);
        Due.is("join(2, 255) when 255 is up again", x.join(2, 255), true);
    }

    private static void viaIsNotItself() {
        Due.shows("Promise 2", "so p itself is none");
        Net x = new Net();
        Due.is("join(7, 7) of a new number", x.join(7, 7), false);
        Due.is("lookup(7)", x.lookup(7), -1);
        x.join(7, -1);
        Due.is("join(7, 7) of one that is up", x.join(7, 7), false);
        x.leave(7);
        Due.is("join(7, 7) of one that has left", x.join(7, 7), false);
        Due.is("lookup(7)", x.lookup(7), -1);
        Due.is("join(7, -1)", x.join(7, -1), true);
    }

    private static void upCannotJoin() {
        Due.shows("Promise 2", "refused, when p .. is up; A peer is UP from join until leave");
        Net x = new Net();
        x.join(5, -1);
        Due.is("join(5, -1) when up", x.join(5, -1), false);
        x.join(6, 5);
        Due.is("join(5, 6) when up", x.join(5, 6), false);
        Due.is("lookup(5)", x.lookup(5), 0);
        x.leave(5);
        Due.is("join(5, 6) after leave", x.join(5, 6), true);
        Due.is("join(5, 6) again", x.join(5, 6), false);
    }

    private static void twelveMayJoin() {
        Due.shows("Promise 2", "At most twelve different numbers may ever join");
        Net x = new Net();
        for (int i = 1; i <= 12; i++) {
            Due.is("the join of number " + i, x.join(250 - 20 * i, -1), true);
        }
        Due.is("the thirteenth, least of all", x.join(0, -1), false);
        Due.is("the thirteenth, among them", x.join(131, -1), false);
        Due.is("the thirteenth, greatest of all", x.join(255, 230), false);
        Due.is("lookup(0)", x.lookup(0), -1);
        for (int i = 1; i <= 12; i++) {
            Due.is("number " + i + " is up", x.lookup(250 - 20 * i), 0);
        }
        x.leave(230);
        Due.is("the thirteenth, when one has left", x.join(255, -1), false);
        for (int i = 2; i <= 12; i++) {
            x.leave(250 - 20 * i);
        }
        Due.is("the thirteenth, when all have left", x.join(255, -1), false);
    }

    private static void joiningAnewTakesNoPlace() {
        Due.shows("Promise 2", "twelve different numbers");
        Net x = new Net();
        for (int i = 0; i < 20; i++) {
            x.join(100, -1);
            x.leave(100);
        }
        for (int p = 1; p <= 11; p++) {
            Due.is("join(" + p + ", -1)", x.join(p, -1), true);
        }
        Due.is("join(12, -1), the thirteenth", x.join(12, -1), false);
        Due.is("join(100, -1)", x.join(100, -1), true);
    }

    private static void refusedOnesTakeNoPlace() {
        Due.shows("Promise 2", "What is refused changes nothing");
        Net x = new Net();
        for (int i = 0; i < 13; i++) {
            x.join(100 + i, 99);
            x.join(100 + i, 100 + i);
            x.join(-1 - i, -1);
            x.join(256 + i, -1);
        }
        for (int p = 1; p <= 12; p++) {
            Due.is("join(" + p + ", -1)", x.join(p, -1), true);
        }
        Due.is("join(13, -1)", x.join(13, -1), false);
    }

    private static void oneOfTheTwelveMayJoinAgain() {
        Due.shows("Promise 2", "one that left may join again");
        Net x = new Net();
        for (int p = 1; p <= 12; p++) {
            x.join(p, -1);
        }
        for (int p = 1; p <= 12; p++) {
            x.leave(p);
            Due.is("join(13, -1)", x.join(13, -1), false);
            Due.is("join(" + p + ", -1) again", x.join(p, -1), true);
        }
    }

    private static void joinedAloneKnowsNobody() {
        Due.shows("Promise 2", "p is up, with an empty table, no entries and no lookup");
        Net x = new Net();
        Steps.ticks(x, 3);
        x.join(255, -1);
        Due.is("buckets(255)", x.buckets(255), 1);
        Due.is("bucket(255, 0)", x.bucket(255, 0), 0);
        Due.is("contact(255, 0, 0)", x.contact(255, 0, 0), -1);
        Due.is("closest(255, 255, 0)", x.closest(255, 255, 0), -1);
        Due.is("entry(255, 0)", x.entry(255, 0), -1);
        Due.is("lookup(255)", x.lookup(255), 0);
        Due.is("candidate(255, 0)", x.candidate(255, 0), -1);
        Due.is("found(255, 0)", x.found(255, 0), -1);
        Due.is("waiting()", x.waiting(), 0);
        x.join(0, 255);
        Due.is("the first serial", x.datagram(0, 3), 1);
    }

    private static void joinedViaSeesOne() {
        Due.shows("Promise 2", "if via is not -1, p then sees via and begins a FIND for p itself");
        Net x = new Net();
        x.join(0, -1);
        x.tick();
        Due.is("join(255, 0)", x.join(255, 0), true);
        Steps.areContacts("255 sees 0", x, 255, 0, 0);
        Due.is("bucket(255, 0)", x.bucket(255, 0), 256);
        Due.is("lookup(255)", x.lookup(255), 1);
        Steps.areCandidates("255 asks 0", x, 255, 0 + 256);
        Steps.isDatagram("to 0", x, 0, 0, 255, 0, 1, 255);
        Due.is("0 has seen nobody", x.contact(0, 0, 0), -1);
        x.leave(0);
        x.join(0, 255);
        Steps.areContacts("0 sees 255", x, 0, 0, 255);
        Steps.isDatagram("to 255", x, 1, 0, 0, 255, 2, 0);
        Due.is("waiting()", x.waiting(), 2);
    }

    private static void joinedAnewBeginsAnew() {
        Due.shows("Promise 2", "one that left may join again, and then begins anew");
        Net x = new Net();
        x.join(0, -1);
        int[] guests = {1, 2, 200, 4};
        for (int guest : guests) {
            Steps.see(x, 0, guest);
        }
        x.leave(1);
        Steps.joinAndFind(x, 1, 0);
        Steps.announce(x, 1, 0);
        x.begin(0, 1, 0);
        Steps.deliverAll(x);
        Due.is("before: buckets(0)", x.buckets(0), 2);
        Due.is("before: entry(0, 0)", x.entry(0, 0), 256 * 1 + 65536 * 24);
        Due.is("before: found(0, 0)", x.found(0, 0), 1);
        Due.is("before: lookup(0)", x.lookup(0), 2);
        x.tick();
        x.leave(0);
        Steps.ticks(x, 5);
        Due.is("join(0, -1)", x.join(0, -1), true);
        Due.is("buckets(0)", x.buckets(0), 1);
        Due.is("bucket(0, 0)", x.bucket(0, 0), 0);
        Due.is("contact(0, 0, 0)", x.contact(0, 0, 0), -1);
        Due.is("closest(0, 0, 0)", x.closest(0, 0, 0), -1);
        Due.is("entry(0, 0)", x.entry(0, 0), -1);
        Due.is("lookup(0)", x.lookup(0), 0);
        Due.is("candidate(0, 0)", x.candidate(0, 0), -1);
        Due.is("found(0, 0)", x.found(0, 0), -1);
        Steps.see(x, 0, 2);
        Steps.areContacts("one seen anew", x, 0, 0, 2);
        Due.is("one seen anew: bucket(0, 0)", x.bucket(0, 0), 256);
    }

    private static void leavingNeedsOneThatIsUp() {
        Due.shows("Promise 3", "Answers true; false when it is not up");
        Net x = new Net();
        Due.is("leave(0), never joined", x.leave(0), false);
        x.join(0, -1);
        x.join(255, 0);
        Due.is("leave(-1)", x.leave(-1), false);
        Due.is("leave(256)", x.leave(256), false);
        Due.is("leave(1)", x.leave(1), false);
        Due.is("leave(0)", x.leave(0), true);
        Due.is("leave(0) again", x.leave(0), false);
        Due.is("leave(255)", x.leave(255), true);
        x.join(0, -1);
        Due.is("leave(0) when up again", x.leave(0), true);
    }

    private static void datagramsStayInTheLine() {
        Due.shows("Promise 3", "datagrams from and to it stay in the line");
        Net x = new Net();
        x.join(1, -1);
        Steps.crowd(x, 1, 2, 24);
        x.leave(1);
        Due.is("all to one that left: waiting()", x.waiting(), 24);
        x.leave(2);
        Due.is("all from one that left: waiting()", x.waiting(), 24);
        Steps.isDatagram("the first of them", x, 0, 0, 2, 1, 1, 2);
        Steps.isDatagram("the last of them", x, 23, 0, 2, 1, 24, 2);
        Due.is("deliver(23)", x.deliver(23), 0);
        Due.is("waiting()", x.waiting(), 23);
    }

    private static void datagramReachesOneUpAgain() {
        Due.shows("Promise 3", "one to it reaches it if it is up again then");
        Net x = new Net();
        x.join(1, -1);
        x.join(2, 1);
        x.join(3, 1);
        x.leave(1);
        x.leave(2);
        Due.is("to one not up: deliver(0)", x.deliver(0), 0);
        x.join(1, -1);
        Due.is("to one up again: deliver(0)", x.deliver(0), 1);
        Steps.areContacts("it has seen the sender", x, 1, 0, 3);
        Due.is("and answers: waiting()", x.waiting(), 1);
        Steps.isDatagram("and answers", x, 0, 2, 1, 3, 2, -1, 35649);
    }

    private static void notUpHasNothing() {
        Due.shows("Promise 3", "A peer that is not up has no table, no entries, no lookup");
        Net x = new Net();
        x.join(0, -1);
        Steps.joinAndFind(x, 1, 0);
        Steps.announce(x, 1, 7);
        x.begin(0, 1, 7);
        Steps.deliverAll(x);
        Due.is("up: entry(0, 0)", x.entry(0, 0), 7 + 256 * 1 + 65536 * 24);
        Due.is("up: candidate(0, 0)", x.candidate(0, 0), 1 + 512);
        Due.is("up: contact(0, 0, 0)", x.contact(0, 0, 0), 1);
        x.leave(0);
        Due.is("lookup(0)", x.lookup(0), -1);
        Due.is("candidate(0, 0)", x.candidate(0, 0), -1);
        Due.is("found(0, 0)", x.found(0, 0), -1);
        Due.is("buckets(0)", x.buckets(0), -1);
        Due.is("bucket(0, 0)", x.bucket(0, 0), -1);
        Due.is("contact(0, 0, 0)", x.contact(0, 0, 0), -1);
        Due.is("closest(0, 1, 0)", x.closest(0, 1, 0), -1);
        Due.is("entry(0, 0)", x.entry(0, 0), -1);
        Due.is("begin(0, 0, 1)", x.begin(0, 0, 1), false);
        Steps.ticks(x, 20);
        Due.is("refresh(0)", x.refresh(0), -1);
    }

    private static void clockStartsAtNought() {
        Due.shows("Promise 7", "CLOCK is 0 at first; CLOCK grows by 1");
        Net x = new Net();
        Due.is("clock()", x.clock(), 0);
        x.join(1, -1);
        x.join(2, 1);
        x.begin(1, 0, 0);
        x.deliver(0);
        x.drop(0);
        x.leave(2);
        Due.is("clock() without a tick", x.clock(), 0);
        x.tick();
        Due.is("clock() after one", x.clock(), 1);
        x.tick();
        Due.is("clock() after two", x.clock(), 2);
    }

    private static void lastCallIsAnswered() {
        Due.shows("Promise 7", "An object is used for at most 512 calls");
        Net x = new Net();
        Steps.ticks(x, Net.CALLS - 1);
        Due.is("clock() as the 512th call", x.clock(), 511);
        Net y = new Net();
        y.join(3, -1);
        Steps.ticks(y, Net.CALLS - 2);
        Due.is("bucket(3, 0) as the 512th call", y.bucket(3, 0), 1024 * 510);
    }

    private static void lookupHasFourAnswers() {
        Due.shows("Promise 12", "-1 when p is not up (or no peer), 0 when it has no lookup, 1"
                + " when its lookup is running, 2 when it has ended");
        Net x = new Net();
        Due.is("never joined: lookup(0)", x.lookup(0), -1);
        x.join(0, -1);
        Due.is("none: lookup(0)", x.lookup(0), 0);
        x.join(255, 0);
        Due.is("asked: lookup(255)", x.lookup(255), 1);
        x.deliver(0);
        Due.is("answer on its way: lookup(255)", x.lookup(255), 1);
        Due.is("the other has none still: lookup(0)", x.lookup(0), 0);
        x.deliver(0);
        Due.is("answered: lookup(255)", x.lookup(255), 2);
        x.begin(255, 1, 0);
        Due.is("begun again: lookup(255)", x.lookup(255), 1);
        Due.is("no number: lookup(-1)", x.lookup(-1), -1);
        Due.is("no number: lookup(256)", x.lookup(256), -1);
        x.leave(255);
        Due.is("left: lookup(255)", x.lookup(255), -1);
        x.join(255, -1);
        Due.is("anew: lookup(255)", x.lookup(255), 0);
    }

    private static void objectsAreApart() {
        Due.shows("Promise 1", "No peer, no datagram; CLOCK 0", "whatever other objects have");
        Net x = new Net();
        Net y = new Net();
        x.join(1, -1);
        x.join(2, 1);
        x.tick();
        Due.is("other object: clock()", y.clock(), 0);
        Due.is("other object: waiting()", y.waiting(), 0);
        Due.is("other object: lookup(1)", y.lookup(1), -1);
        y.join(1, -1);
        y.join(2, 1);
        Due.is("other object: serial", y.datagram(0, 3), 1);
    }
}
