/** Promises 1 (a new object), 2 (join), 3 (leave), 7 (clock) and 12 (lookup). */
public final class PeersTest {
    private PeersTest() {
    }

    public static void main(String[] args) {
        newObjectIsEmpty();
        objectsAreApart();
        joinAlone();
        joinByAnother();
        joinIsRefused();
        refusedJoinTakesNoPlace();
        thirteenthIsRefused();
        joinAnewForgets();
        leave();
        datagramsOutliveLeaving();
        clockCountsTicks();
        lookupTellsStage();
        Due.end();
    }

    private static void newObjectIsEmpty() {
        Net x = new Net();
        Due.is("new: clock()", x.clock(), 0);
        Due.is("new: waiting()", x.waiting(), 0);
        Due.is("new: datagram(0, 0)", x.datagram(0, 0), -1);
        Due.is("new: tick()", x.tick(), 0);
        for (int p = -1; p <= 256; p += 1) {
            Due.is("new: buckets(" + p + ")", x.buckets(p), -1);
        }
        Due.is("new: deliver(0)", x.deliver(0), -1);
        Due.is("new: drop(0)", x.drop(0), false);
    }

    private static void objectsAreApart() {
        Net x = new Net();
        Net y = new Net();
        x.join(1, -1);
        x.join(2, 1);
        x.tick();
        Due.is("other object: clock()", y.clock(), 0);
        Due.is("other object: waiting()", y.waiting(), 0);
        Due.is("other object: lookup(1)", y.lookup(1), -1);
        y.join(1, -1);
        y.join(2, 1);
        Due.is("other object: serial", y.datagram(0, 3), 1);
    }

    private static void joinAlone() {
        Net x = new Net();
        Steps.ticks(x, 3);
        Due.is("join(0, -1)", x.join(0, -1), true);
        Due.is("join(255, -1)", x.join(255, -1), true);
        Due.is("alone: lookup(0)", x.lookup(0), 0);
        Due.is("alone: buckets(0)", x.buckets(0), 1);
        Due.is("alone: bucket(0, 0)", x.bucket(0, 0), 0);
        Due.is("alone: contact(0, 0, 0)", x.contact(0, 0, 0), -1);
        Due.is("alone: entry(0, 0)", x.entry(0, 0), -1);
        Due.is("alone: waiting()", x.waiting(), 0);
        x.join(9, 0);
        Due.is("alone: it took no serial", x.datagram(0, 3), 1);
    }

    private static void joinByAnother() {
        Net x = new Net();
        x.join(10, -1);
        Steps.ticks(x, 3);
        Due.is("join(77, 10)", x.join(77, 10), true);
        Due.is("via: lookup(77)", x.lookup(77), 1);
        Due.is("via: bucket(77, 0)", x.bucket(77, 0), 256);
        Steps.areContacts("via", x, 77, 0, 10);
        Steps.areCandidates("via", x, 77, 10 + 256);
        Steps.isDatagram("via", x, 0, 0, 77, 10, 1, 77);
        Due.is("via: waiting()", x.waiting(), 1);
        Due.is("via: 10 has not seen 77", x.contact(10, 0, 0), -1);
        Due.is("via: 10 has no lookup", x.lookup(10), 0);
    }

    private static void joinIsRefused() {
        Net x = new Net();
        x.join(10, -1);
        int[] wrong = {-1, 256, -2, Integer.MIN_VALUE, Integer.MAX_VALUE};
        for (int p : wrong) {
            Due.is("join(" + p + ", -1)", x.join(p, -1), false);
            Due.is("join(" + p + ", 10)", x.join(p, 10), false);
        }
        int[] wrongVia = {-2, 20, 30, 256, Integer.MIN_VALUE, Integer.MAX_VALUE};
        for (int via : wrongVia) {
            Due.is("join(20, " + via + ")", x.join(20, via), false);
        }
        Due.is("join(10, -1) when up", x.join(10, -1), false);
        Due.is("join(10, 10)", x.join(10, 10), false);
        Due.is("refused: lookup(20)", x.lookup(20), -1);
        Due.is("refused: waiting()", x.waiting(), 0);
        x.leave(10);
        Due.is("join(20, 10) when 10 has left", x.join(20, 10), false);
        Due.is("join(10, 10) when 10 has left", x.join(10, 10), false);
    }

    private static void refusedJoinTakesNoPlace() {
        Net x = new Net();
        for (int i = 0; i < 20; i++) {
            x.join(100 + i, 99);
            x.join(-1 - i, -1);
        }
        for (int p = 0; p < 12; p++) {
            Due.is("after refused ones: join(" + p + ", -1)", x.join(p, -1), true);
        }
    }

    private static void thirteenthIsRefused() {
        Net x = new Net();
        for (int i = 0; i < 12; i++) {
            Due.is("one of twelve joins", x.join(240 - 20 * i, i == 0 ? -1 : 240), true);
        }
        int waiting = x.waiting();
        Due.is("the thirteenth", x.join(1, -1), false);
        Due.is("the thirteenth, via 240", x.join(1, 240), false);
        x.leave(20);
        Due.is("the thirteenth, when one has left", x.join(1, -1), false);
        Due.is("the thirteenth: lookup(1)", x.lookup(1), -1);
        Due.is("the thirteenth: waiting()", x.waiting(), waiting);
        Due.is("one of the twelve again", x.join(20, 240), true);
        for (int i = 0; i < 12; i++) {
            Due.is("all twelve are up", x.buckets(240 - 20 * i), 1);
        }
    }

    private static void joinAnewForgets() {
        Net x = new Net();
        x.join(0, -1);
        int[] guests = {1, 2, 200, 4};
        for (int guest : guests) {
            Steps.see(x, 0, guest);
        }
        x.leave(1);
        x.join(1, 0);
        Steps.deliverAll(x);
        x.begin(1, 2, 0);
        Steps.deliverAll(x);
        x.begin(0, 1, 0);
        Steps.deliverAll(x);
        Due.is("before it leaves: buckets(0)", x.buckets(0), 2);
        Due.is("before it leaves: entry(0, 0)", x.entry(0, 0), 256 + 65536 * 24);
        Due.is("before it leaves: found(0, 0)", x.found(0, 0), 1);
        x.tick();
        x.leave(0);
        Steps.ticks(x, 5);
        Due.is("anew: join(0, -1)", x.join(0, -1), true);
        Due.is("anew: buckets(0)", x.buckets(0), 1);
        Due.is("anew: bucket(0, 0)", x.bucket(0, 0), 0);
        Due.is("anew: contact(0, 0, 0)", x.contact(0, 0, 0), -1);
        Due.is("anew: closest(0, 0, 0)", x.closest(0, 0, 0), -1);
        Due.is("anew: entry(0, 0)", x.entry(0, 0), -1);
        Due.is("anew: lookup(0)", x.lookup(0), 0);
        Due.is("anew: candidate(0, 0)", x.candidate(0, 0), -1);
        Due.is("anew: found(0, 0)", x.found(0, 0), -1);
        Steps.see(x, 0, 2);
        Steps.areContacts("anew", x, 0, 0, 2);
    }

    private static void leave() {
        Net x = new Net();
        x.join(3, -1);
        int[] wrong = {-1, 4, 256, Integer.MIN_VALUE, Integer.MAX_VALUE};
        for (int p : wrong) {
            Due.is("leave(" + p + ")", x.leave(p), false);
        }
        Due.is("leave(3)", x.leave(3), true);
        Due.is("leave(3) again", x.leave(3), false);
        Due.is("left: lookup(3)", x.lookup(3), -1);
        Due.is("left: candidate(3, 0)", x.candidate(3, 0), -1);
        Due.is("left: found(3, 0)", x.found(3, 0), -1);
        Due.is("left: buckets(3)", x.buckets(3), -1);
        Due.is("left: bucket(3, 0)", x.bucket(3, 0), -1);
        Due.is("left: contact(3, 0, 0)", x.contact(3, 0, 0), -1);
        Due.is("left: closest(3, 3, 0)", x.closest(3, 3, 0), -1);
        Due.is("left: entry(3, 0)", x.entry(3, 0), -1);
        Due.is("left: begin(3, 0, 0)", x.begin(3, 0, 0), false);
        Due.is("left: refresh(3)", x.refresh(3), -1);
    }

    private static void datagramsOutliveLeaving() {
        Net x = new Net();
        x.join(1, -1);
        x.join(2, 1);
        x.join(3, 1);
        x.leave(1);
        x.leave(2);
        Due.is("left: waiting()", x.waiting(), 2);
        Due.is("to one that left: deliver(0)", x.deliver(0), 0);
        Due.is("to one that left: it is out of the line", x.waiting(), 1);
        x.join(1, -1);
        Due.is("to one up again: deliver(0)", x.deliver(0), 1);
        Steps.areContacts("to one up again", x, 1, 0, 3);
        x.leave(3);
        x.join(3, 1);
        x.leave(3);
        Due.is("from one that left: deliver(1)", x.deliver(1), 1);
        Steps.areContacts("from one that left", x, 1, 0, 3);
        Due.is("from one that left: it is answered", x.datagram(1, 2), 3);
        x.join(3, -1);
        Due.is("answer to an older lookup: deliver(1)", x.deliver(1), 1);
        Due.is("answer to an older lookup: lookup(3)", x.lookup(3), 0);
        Steps.areContacts("answer to an older lookup", x, 3, 0, 1);
    }

    private static void clockCountsTicks() {
        Net x = new Net();
        for (int i = 1; i <= 40; i++) {
            x.tick();
            Due.is("clock() after " + i + " ticks", x.clock(), i);
        }
        x.join(1, -1);
        x.join(2, 1);
        x.deliver(0);
        Due.is("clock() stands still otherwise", x.clock(), 40);
    }

    private static void lookupTellsStage() {
        Net x = new Net();
        x.join(1, -1);
        Due.is("none: lookup(1)", x.lookup(1), 0);
        x.join(2, 1);
        Due.is("running: lookup(2)", x.lookup(2), 1);
        x.deliver(0);
        Due.is("still running: lookup(2)", x.lookup(2), 1);
        x.deliver(0);
        Due.is("ended: lookup(2)", x.lookup(2), 2);
        x.begin(2, 1, 7);
        Due.is("running again: lookup(2)", x.lookup(2), 1);
        int[] wrong = {-1, 3, 256, Integer.MIN_VALUE, Integer.MAX_VALUE};
        for (int p : wrong) {
            Due.is("lookup(" + p + ")", x.lookup(p), -1);
        }
    }
}
