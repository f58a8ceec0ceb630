/** Promises 8 (waiting), 9 (datagram), 10 (deliver) and 11 (drop). */
public final class DatagramsTest {
    private DatagramsTest() {
    }

    public static void main(String[] args) {
        waitingCounts();
        datagramTellsFindAndGet();
        datagramTellsNodes();
        datagramTellsStore();
        datagramIsRefused();
        tokenFollowsEpoch();
        nodesLeaveOutTheAsker();
        deliverAnyPlace();
        deliverIsRefused();
        nodesFromAStranger();
        dropTakesOut();
        lineHoldsTwentyFour();
        answerTakesTheFreedPlace();
        storesAreLostWithoutRoom();
        Due.end();
    }

    private static Net pair() {
        Net x = new Net();
        x.join(0, -1);
        x.join(1, 0);
        return x;
    }

    /** So many FINDs of 1 to 0 wait, with the serials from 1 on. */
    private static Net crowded(int count) {
        Net x = pair();
        for (int i = 1; i < count; i++) {
            x.leave(1);
            x.join(1, 0);
        }
        return x;
    }

    private static void waitingCounts() {
        Net x = new Net();
        x.join(0, -1);
        Due.is("none: waiting()", x.waiting(), 0);
        x.join(1, 0);
        x.join(2, 0);
        Due.is("two: waiting()", x.waiting(), 2);
        x.deliver(0);
        Due.is("one and an answer: waiting()", x.waiting(), 2);
        x.drop(1);
        Due.is("one: waiting()", x.waiting(), 1);
    }

    private static void datagramTellsFindAndGet() {
        Net x = pair();
        Steps.isDatagram("FIND", x, 0, 0, 1, 0, 1, 1);
        Steps.deliverAll(x);
        x.begin(1, 1, 255);
        Steps.isDatagram("GET", x, 0, 1, 1, 0, 2, 255);
    }

    private static void datagramTellsNodes() {
        Net x = new Net();
        x.join(0, -1);
        int[] announcers = {1, 2, 3};
        for (int p : announcers) {
            x.join(p, 0);
            Steps.deliverAll(x);
            x.begin(p, 2, 11);
            Steps.deliverAll(x);
        }
        x.join(9, 0);
        x.deliver(0);
        // Distances from 9: 1 has 8, 3 has 10, 2 has 11.
        Steps.isDatagram("NODES to a FIND", x, 0, 2, 0, 9, 7, -1, 53375, 1, 3, 2);
        Steps.silentTicks(x, 4);
        x.begin(9, 1, 11);
        x.deliver(0);
        // Distances from 11: 3 has 8, 2 has 9, 1 has 10.
        Steps.isDatagram("NODES to a GET", x, 0, 2, 0, 9, 8, -1, 53375, 3, 2, 1, 1, 2, 3);
    }

    private static void datagramTellsStore() {
        Net x = pair();
        Steps.deliverAll(x);
        x.begin(1, 2, 200);
        x.deliver(0);
        x.deliver(0);
        Due.is("STORE: waiting()", x.waiting(), 1);
        Steps.isDatagram("STORE", x, 0, 3, 1, 0, 2, 200, 40200);
    }

    private static void datagramIsRefused() {
        Net x = pair();
        int[] wrong = {-1, 12, 13, 24, Integer.MIN_VALUE, Integer.MAX_VALUE};
        for (int what : wrong) {
            Due.is("datagram(0, " + what + ")", x.datagram(0, what), -1);
        }
        int[] wrongPlaces = {-1, 1, 23, 24, 25, Integer.MIN_VALUE, Integer.MAX_VALUE};
        for (int k : wrongPlaces) {
            Due.is("datagram(" + k + ", 1)", x.datagram(k, 1), -1);
            Due.is("datagram(" + k + ", 13)", x.datagram(k, 13), -1);
        }
        x.join(2, 0);
        Due.is("datagram(0, 13) with two", x.datagram(0, 13), -1);
        Due.is("datagram(1, -11) with two", x.datagram(1, -11), -1);
    }

    private static void tokenFollowsEpoch() {
        Net x = pair();
        x.deliver(0);
        Due.is("epoch 1: token", x.datagram(0, 5), 40200);
        Steps.silentTicks(x, 7);
        x.begin(1, 0, 5);
        x.deliver(0);
        Due.is("clock 7: token", x.datagram(0, 5), 40200);
        x.deliver(0);
        x.begin(1, 0, 5);
        x.tick();
        x.deliver(0);
        Due.is("clock 8: token", x.datagram(0, 5), 4937);
        Steps.silentTicks(x, 8);
        x.begin(1, 0, 5);
        x.deliver(0);
        Due.is("clock 16: token", x.datagram(0, 5), 34219);
        Net y = new Net();
        y.join(255, -1);
        Steps.ticks(y, 472);
        y.join(254, 255);
        y.deliver(0);
        Due.is("epoch 60: token", y.datagram(0, 5), 1728);
    }

    private static void nodesLeaveOutTheAsker() {
        Net x = new Net();
        x.join(128, -1);
        int[] guests = {10, 11, 12, 140, 9};
        for (int guest : guests) {
            Steps.see(x, 128, guest);
        }
        // Distances from 10: 10 itself 0, 11 has 1, 12 has 6, 140 has 134; 9 found no room.
        x.leave(10);
        x.join(10, 128);
        x.deliver(0);
        Due.is("asker left out: first", x.datagram(0, 6), 11);
        Due.is("asker left out: second", x.datagram(0, 7), 12);
        Due.is("asker left out: third", x.datagram(0, 8), 140);
        x.drop(0);
        x.leave(9);
        x.join(9, 128);
        x.deliver(0);
        Due.is("closest three: first", x.datagram(0, 6), 11);
        Due.is("closest three: second", x.datagram(0, 7), 10);
        Due.is("closest three: third", x.datagram(0, 8), 12);
        Due.is("closest three: no fourth", x.datagram(0, 9), -1);
    }

    private static void deliverAnyPlace() {
        Net x = new Net();
        x.join(0, -1);
        x.join(1, 0);
        x.join(2, 0);
        x.join(3, 0);
        Due.is("middle: deliver(1)", x.deliver(1), 1);
        Steps.areContacts("middle", x, 0, 0, 2);
        Due.is("middle: first is left", x.datagram(0, 1), 1);
        Due.is("middle: third moves up", x.datagram(1, 1), 3);
        Due.is("middle: the answer is last", x.datagram(2, 2), 2);
        Due.is("last: deliver(2)", x.deliver(2), 1);
        Due.is("last: lookup(2)", x.lookup(2), 2);
        Due.is("last: waiting()", x.waiting(), 2);
        x.leave(0);
        Due.is("to none: deliver(1)", x.deliver(1), 0);
        Due.is("to none: deliver(0)", x.deliver(0), 0);
        Due.is("to none: waiting()", x.waiting(), 0);
    }

    private static void deliverIsRefused() {
        Net x = pair();
        int[] wrong = {-1, 1, 24, Integer.MIN_VALUE, Integer.MAX_VALUE};
        for (int k : wrong) {
            Due.is("deliver(" + k + ")", x.deliver(k), -1);
        }
        Due.is("refused: waiting()", x.waiting(), 1);
        Due.is("refused: contact(0, 0, 0)", x.contact(0, 0, 0), -1);
    }

    private static void nodesFromAStranger() {
        Net x = pair();
        x.deliver(0);
        x.leave(1);
        x.join(1, 0);
        Due.is("old serial: deliver(0)", x.deliver(0), 1);
        Due.is("old serial: lookup(1)", x.lookup(1), 1);
        Due.is("old serial: candidate(1, 0)", x.candidate(1, 0), 256);
        x.deliver(0);
        Due.is("right serial: deliver(0)", x.deliver(0), 1);
        Due.is("right serial: candidate(1, 0)", x.candidate(1, 0), 512);
    }

    private static void dropTakesOut() {
        Net x = new Net();
        x.join(0, -1);
        x.join(1, 0);
        x.join(2, 0);
        x.join(3, 0);
        int[] wrong = {-1, 3, 24, Integer.MIN_VALUE, Integer.MAX_VALUE};
        for (int k : wrong) {
            Due.is("drop(" + k + ")", x.drop(k), false);
        }
        Due.is("refused: waiting()", x.waiting(), 3);
        Due.is("drop(1)", x.drop(1), true);
        Due.is("dropped: waiting()", x.waiting(), 2);
        Due.is("dropped: first", x.datagram(0, 1), 1);
        Due.is("dropped: second", x.datagram(1, 1), 3);
        Due.is("dropped: nobody is seen", x.contact(0, 0, 0), -1);
        Due.is("dropped: still asked", x.candidate(2, 0), 256);
        Due.is("drop(1) again", x.drop(1), true);
        Due.is("drop(0)", x.drop(0), true);
        Due.is("drop(0) of none", x.drop(0), false);
    }

    private static void lineHoldsTwentyFour() {
        Net x = crowded(24);
        Due.is("24: waiting()", x.waiting(), 24);
        Due.is("24: the last serial", x.datagram(23, 3), 24);
        x.leave(1);
        Due.is("25: join(1, 0)", x.join(1, 0), true);
        Due.is("25: waiting()", x.waiting(), 24);
        Due.is("25: the last serial", x.datagram(23, 3), 24);
        Due.is("25: datagram(24, 3)", x.datagram(24, 3), -1);
        Due.is("25: asked all the same", x.candidate(1, 0), 256);
        Due.is("25: lookup(1)", x.lookup(1), 1);
        Due.is("25: three ticks", x.tick() + x.tick() + x.tick(), 0);
        Due.is("25: the fourth tick", x.tick(), 1);
        Due.is("25: lookup(1) after it", x.lookup(1), 2);
        x.drop(0);
        x.begin(1, 0, 7);
        Due.is("26: waiting()", x.waiting(), 24);
        Due.is("26: the last serial", x.datagram(23, 3), 26);
    }

    private static void answerTakesTheFreedPlace() {
        Net x = crowded(24);
        Due.is("full: deliver(5)", x.deliver(5), 1);
        Due.is("full: waiting()", x.waiting(), 24);
        Due.is("full: fifth", x.datagram(4, 3), 5);
        Due.is("full: the next moves up", x.datagram(5, 3), 7);
        Steps.isDatagram("full", x, 23, 2, 0, 1, 6, -1, 40200);
    }

    private static void storesAreLostWithoutRoom() {
        Net x = new Net();
        x.join(0, -1);
        Steps.see(x, 0, 1);
        Steps.see(x, 0, 2);
        Steps.see(x, 0, 3);
        Steps.silentTicks(x, 4);
        x.begin(0, 2, 0);
        for (int i = 0; i < 5; i++) {
            x.deliver(0);
        }
        Due.is("before the end: waiting()", x.waiting(), 1);
        Due.is("before the end: kind", x.datagram(0, 0), 2);
        while (x.waiting() < 24) {
            x.leave(3);
            x.join(3, 1);
        }
        x.deliver(0);
        Due.is("room for one: lookup(0)", x.lookup(0), 2);
        Due.is("room for one: waiting()", x.waiting(), 24);
        Due.is("room for one: kind", x.datagram(23, 0), 3);
        Due.is("room for one: the closest", x.datagram(23, 2), 1);
        x.drop(0);
        Due.is("the lost ones do not come later", x.waiting(), 23);
    }
}
