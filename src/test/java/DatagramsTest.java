/** The bounds that Terms name for the line of datagrams, and promises 8 to 11. */
public final class DatagramsTest {
    private static final int ASKED = 256;
    private static final int FAILED = 768;

    private DatagramsTest() {
    }

    public static void main(String[] args) {
        twentyFourWait();
        lostWithoutATrace();
        lastPlaceIsForTheCloser();
        answerTakesTheFreedPlace();
        storesTakeWhatRoomThereIs();
        storeOfATickIsLost();
        questionOfATickIsLost();
        datagramHasAPlace();
        datagramHasTwelveCells();
        findAndGetHaveATargetAlone();
        nodesHaveNoTarget();
        storeHasTargetAndToken();
        nodesHaveThreeContactsAtMost();
        nodesHaveThreeHoldersAtMost();
        nodesLeaveOutTheAsker();
        askerIsSeenBeforeTheAnswer();
        tokenOfTheLeastAndTheGreatest();
        tokenChangesEveryEightTicks();
        tokenIsOfTheDelivery();
        deliverFromEveryPlace();
        deliverToOneNotUpIsAll();
        deliverFromOneNotUp();
        dropFromEveryPlace();
        dropIsAll();
        nodesTellContactsAndHolders();
        Due.end();
    }

    /** So many FINDs of 1 to 0 wait, with the serials from 1 on. */
    private static Net crowded(int count) {
        Net x = new Net();
        x.join(0, -1);
        Steps.crowd(x, 0, 1, count);
        return x;
    }

    private static void twentyFourWait() {
        Due.shows("Promise 8", "When 24 wait already, a datagram that is sent is lost at once");
        Net x = new Net();
        Due.is("none: waiting()", x.waiting(), 0);
        x.join(0, -1);
        Due.is("none sent: waiting()", x.waiting(), 0);
        for (int sent = 1; sent <= 26; sent++) {
            x.leave(1);
            x.join(1, 0);
            Due.is(sent + " sent: waiting()", x.waiting(), Math.min(sent, 24));
        }
        for (int left = 23; left >= 0; left--) {
            x.drop(0);
            Due.is(left + " left: waiting()", x.waiting(), left);
        }
    }

    private static void lostWithoutATrace() {
        Due.shows("Promise 8", "without a trace (who sent it does not know: a candidate is ASKED"
                + " all the same)");
        Net x = crowded(24);
        x.leave(1);
        Due.is("join(1, 0)", x.join(1, 0), true);
        Due.is("lookup(1)", x.lookup(1), 1);
        Steps.areCandidates("asked all the same", x, 1, 0 + ASKED);
        Due.is("the last that waits", x.datagram(23, 3), 24);
        Due.is("datagram(24, 3)", x.datagram(24, 3), -1);
        x.drop(0);
        Due.is("it does not come later", x.waiting(), 23);
        Steps.ticks(x, 3);
        Steps.areCandidates("three ticks later", x, 1, 0 + ASKED);
        Due.is("tick()", x.tick(), 1);
        Steps.areCandidates("four ticks later", x, 1, 0 + FAILED);
        x.begin(1, 0, 7);
        Due.is("the lost one had its serial", x.datagram(23, 3), 26);
    }

    private static void lastPlaceIsForTheCloser() {
        Due.shows("Promise 8", "p sends it a datagram (also one that is lost at once)");
        for (int kind = 0; kind <= 2; kind++) {
            for (int before = 21; before <= 24; before++) {
                Net x = Steps.host(0, 2, 3);
                Steps.crowd(x, 0, 1, before);
                x.begin(0, kind, 2);
                String name = "kind " + kind + " behind " + before;
                Due.is(name + ": waiting()", x.waiting(), Math.min(before + 2, 24));
                Due.is(name + ": to 2", x.datagram(before, 2), before < 24 ? 2 : -1);
                Due.is(name + ": to 3", x.datagram(before + 1, 2), before < 23 ? 3 : -1);
                Steps.areCandidates(name, x, 0, 2 + ASKED, 3 + ASKED);
            }
        }
    }

    private static void answerTakesTheFreedPlace() {
        Due.shows("Promise 10", "DELIVERY takes a datagram out of the line");
        int[] places = {0, 5, 23};
        for (int k : places) {
            Net x = crowded(24);
            Due.is("deliver(" + k + ")", x.deliver(k), 1);
            Due.is("waiting()", x.waiting(), 24);
            Steps.isDatagram("the answer is the last", x, 23, 2, 0, 1, k + 1, -1, 40200);
            Due.is("the first", x.datagram(0, 3), k == 0 ? 2 : 1);
            Due.is("the last but one", x.datagram(22, 3), k == 23 ? 23 : 24);
        }
    }

    /** 0 announces itself to 1, 2 and 3; the last answer, that of 3, is in front of the line. */
    private static Net beforeTheStores() {
        Net x = Steps.host(0, 1, 2, 3);
        Steps.silentTicks(x, 4);
        x.begin(0, 2, 0);
        for (int i = 0; i < 5; i++) {
            x.deliver(0);
        }
        Due.is("the last answer: waiting()", x.waiting(), 1);
        Due.is("the last answer: kind", x.datagram(0, 0), 2);
        Due.is("the last answer: lookup(0)", x.lookup(0), 1);
        return x;
    }

    private static void storesTakeWhatRoomThereIs() {
        Due.shows("Promise 8", "When 24 wait already, a datagram that is sent is lost at once",
                "the STOREs at the end of an ANNOUNCE");
        for (int before = 21; before <= 24; before++) {
            Net x = beforeTheStores();
            Steps.crowd(x, 1, 4, before);
            x.deliver(0);
            int stores = Math.min(3, 25 - before);
            String name = "behind " + (before - 1);
            Due.is(name + ": lookup(0)", x.lookup(0), 2);
            Due.is(name + ": waiting()", x.waiting(), before - 1 + stores);
            for (int i = 0; i < 3; i++) {
                int due = i < stores ? 3 : -1;
                Due.is(name + ": kind", x.datagram(before - 1 + i, 0), due);
                Due.is(name + ": to", x.datagram(before - 1 + i, 2), i < stores ? i + 1 : -1);
            }
            x.drop(0);
            Due.is(name + ": no lost one comes", x.waiting(), before - 2 + stores);
        }
    }

    private static void storeOfATickIsLost() {
        Due.shows("Promise 6", "When 24 wait already, a datagram that is sent is lost at once",
                "the STORE of a TICK");
        for (int before = 22; before <= 24; before++) {
            Net x = Steps.host(0, 1, 2);
            Steps.silentTicks(x, 4);
            x.begin(0, 2, 1);
            x.deliver(0);
            x.deliver(1);
            x.drop(0);
            Steps.crowd(x, 1, 4, before);
            Steps.ticks(x, 4);
            String name = "behind " + before;
            Due.is(name + ": lookup(0)", x.lookup(0), 2);
            Steps.areCandidates(name, x, 0, 1 + 512, 2 + FAILED);
            Due.is(name + ": waiting()", x.waiting(), Math.min(before + 1, 24));
            Due.is(name + ": kind", x.datagram(before, 0), before < 24 ? 3 : -1);
        }
    }

    private static void questionOfATickIsLost() {
        Due.shows("Promise 6", "who sent it does not know: a candidate is ASKED all the same",
                "that of a TICK");
        for (int before = 23; before <= 24; before++) {
            Net x = Steps.host(0, 1, 2, 3);
            Steps.silentTicks(x, 4);
            x.begin(0, 0, 0);
            Steps.dropAll(x);
            Steps.crowd(x, 1, 4, before);
            Steps.ticks(x, 4);
            String name = "behind " + before;
            Due.is(name + ": waiting()", x.waiting(), 24);
            Due.is(name + ": from", x.datagram(23, 1), before < 24 ? 0 : 4);
            Steps.areCandidates(name, x, 0, 1 + FAILED, 2 + FAILED, 3 + ASKED);
            Steps.ticks(x, 3);
            Due.is(name + ": the last is waited for", x.tick(), 1);
            Due.is(name + ": lookup(0)", x.lookup(0), 2);
        }
    }

    private static void datagramHasAPlace() {
        Due.shows("Promise 9", "the k-th waiting datagram (0 is the front of the line) .. -1 when"
                + " there is no such datagram");
        Net x = new Net();
        Due.is("none: datagram(0, 3)", x.datagram(0, 3), -1);
        Due.is("none: datagram(-1, 3)", x.datagram(-1, 3), -1);
        Net y = crowded(1);
        Due.is("one: datagram(-1, 3)", y.datagram(-1, 3), -1);
        Due.is("one: datagram(0, 3)", y.datagram(0, 3), 1);
        Due.is("one: datagram(1, 3)", y.datagram(1, 3), -1);
        Net z = crowded(24);
        Due.is("24: datagram(-1, 3)", z.datagram(-1, 3), -1);
        Due.is("24: datagram(0, 3)", z.datagram(0, 3), 1);
        Due.is("24: datagram(23, 3)", z.datagram(23, 3), 24);
        Due.is("24: datagram(24, 3)", z.datagram(24, 3), -1);
        z.drop(23);
        Due.is("23: datagram(22, 3)", z.datagram(22, 3), 23);
        Due.is("23: datagram(23, 3)", z.datagram(23, 3), -1);
    }

    private static void datagramHasTwelveCells() {
        Due.shows("Promise 9", "-1 when .. what is not 0 .. 11");
        Net x = crowded(24);
        // What lies beside a cell in the line must not be taken for it.
        for (int k = 0; k < 24; k++) {
            Due.is("datagram(" + k + ", -1)", x.datagram(k, -1), -1);
            Due.is("datagram(" + k + ", 0)", x.datagram(k, 0), 0);
            Due.is("datagram(" + k + ", 12)", x.datagram(k, 12), -1);
            Due.is("datagram(" + k + ", 13)", x.datagram(k, 13), -1);
            Due.is("datagram(" + k + ", -11)", x.datagram(k, -11), -1);
        }
        Net y = withEntries(3);
        y.begin(9, 1, 0);
        y.deliver(0);
        Due.is("the last of twelve: datagram(0, 11)", y.datagram(0, 11), 3);
        Due.is("none behind it: datagram(0, 12)", y.datagram(0, 12), -1);
    }

    private static void findAndGetHaveATargetAlone() {
        Due.shows("Promise 9", "5 token (-1 for FIND and GET)");
        Net x = Steps.host(255, 0);
        x.begin(255, 0, 255);
        Steps.isDatagram("FIND", x, 0, 0, 255, 0, 2, 255, -1);
        Steps.silentTicks(x, 4);
        x.begin(255, 1, 0);
        Steps.isDatagram("GET", x, 0, 1, 255, 0, 3, 0, -1);
        Steps.silentTicks(x, 4);
        x.begin(255, 2, 128);
        Steps.isDatagram("FIND of an ANNOUNCE", x, 0, 0, 255, 0, 4, 128, -1);
    }

    private static void nodesHaveNoTarget() {
        Due.shows("Promise 9", "4 target (-1 for NODES)");
        Net x = new Net();
        x.join(0, -1);
        x.join(1, 0);
        x.deliver(0);
        Steps.isDatagram("NODES without contacts", x, 0, 2, 0, 1, 1, -1, 40200);
    }

    private static void storeHasTargetAndToken() {
        Due.shows("Promise 9", "3 STORE with a TARGET and a TOKEN");
        Net x = new Net();
        x.join(0, -1);
        Steps.joinAndFind(x, 1, 0);
        x.begin(1, 2, 255);
        x.deliver(0);
        x.deliver(0);
        Due.is("waiting()", x.waiting(), 1);
        Steps.isDatagram("STORE", x, 0, 3, 1, 0, 2, 255, 40200);
    }

    private static void nodesHaveThreeContactsAtMost() {
        Due.shows("Promise 9", "the three contacts of r's table that are closest to the target,"
                + " other than s, closest first (fewer, if there are not so many)");
        int[] guests = {3, 2, 200, 1};
        // Distances from 4: 1 has 5, 2 has 6, 3 has 7, 200 has 204.
        int[][] due = {{-1, -1, -1}, {3, -1, -1}, {2, 3, -1}, {2, 3, 200}, {1, 2, 3}};
        for (int n = 0; n <= 4; n++) {
            Net x = new Net();
            x.join(128, -1);
            for (int i = 0; i < n; i++) {
                Steps.see(x, 128, guests[i]);
            }
            x.join(4, 128);
            x.deliver(0);
            for (int i = 0; i < 3; i++) {
                Due.is("contact " + i + " of " + n, x.datagram(0, 6 + i), due[n][i]);
                Due.is("no holder " + i, x.datagram(0, 9 + i), -1);
            }
        }
    }

    /** 0 has entries with the key 0 of holders 1, 2, .. in that order; 9 knows 0 alone. */
    private static Net withEntries(int count) {
        Net x = new Net();
        x.join(0, -1);
        for (int p = 1; p <= count; p++) {
            Steps.joinAndFind(x, p, 0);
            Steps.announce(x, p, 0);
        }
        x.join(9, 0);
        Steps.silentTicks(x, 4);
        return x;
    }

    private static void nodesHaveThreeHoldersAtMost() {
        Due.shows("Promise 9", "of r's entries for the target, in their order, the first three's"
                + " holders; to a FIND with none");
        for (int n = 0; n <= 4; n++) {
            Net x = withEntries(n);
            Due.is("entries", x.entry(0, n), -1);
            Due.is("entries", n == 0 || x.entry(0, n - 1) >= 0, true);
            x.begin(9, 1, 0);
            x.deliver(0);
            for (int i = 0; i < 3; i++) {
                Due.is("holder " + i + " of " + n, x.datagram(0, 9 + i), i < n ? i + 1 : -1);
            }
            Net y = withEntries(n);
            y.begin(9, 0, 0);
            y.deliver(0);
            Net z = withEntries(n);
            z.begin(9, 1, 1);
            z.deliver(0);
            for (int i = 0; i < 3; i++) {
                Due.is("to a FIND: holder " + i, y.datagram(0, 9 + i), -1);
                Due.is("for another key: holder " + i, z.datagram(0, 9 + i), -1);
            }
        }
    }

    private static void nodesLeaveOutTheAsker() {
        Due.shows("Promise 9", "closest to the target, other than s");
        Net x = Steps.host(128, 10, 11, 12, 140);
        x.leave(10);
        x.join(10, 128);
        x.deliver(0);
        // Distances from 10: 10 itself 0, 11 has 1, 12 has 6, 140 has 134.
        Steps.isDatagram("the asker is the closest", x, 0, 2, 128, 10, 5, -1, 46177, 11, 12, 140);
        Net y = Steps.host(128, 10, 11);
        y.leave(11);
        y.join(11, 128);
        y.deliver(0);
        Due.is("one beside the asker", y.datagram(0, 6), 10);
        Due.is("none more", y.datagram(0, 7), -1);
    }

    private static void askerIsSeenBeforeTheAnswer() {
        Due.shows("Promise 10", "the receiver r first sees the sender s .. then");
        Net x = Steps.host(128, 0, 1, 2);
        // Two lookups in vain: 0 and 1 are asked in both, 2 in the first alone.
        x.begin(128, 0, 1);
        Steps.silentTicks(x, 8);
        x.begin(128, 0, 1);
        Steps.silentTicks(x, 4);
        Steps.areContacts("two are tired", x, 128, 0, 0 + 512, 1 + 512, 2 + 256);
        x.join(3, 128);
        x.deliver(0);
        Steps.areContacts("the asker takes the place of 0", x, 128, 0, 1 + 512, 2 + 256, 3);
        Due.is("2 is told", x.datagram(0, 6), 2);
        Due.is("1 is told", x.datagram(0, 7), 1);
        Due.is("0 is not", x.datagram(0, 8), -1);
    }

    private static void tokenOfTheLeastAndTheGreatest() {
        Due.shows("Promise 9", "(x ^ x >>> 7) & 65535, with x = 40503 * p + 9973 * q + 30011 * e"
                + " (>>> before ^, as ints)");
        int[][] due = {
            {0, 1, 40200}, {1, 0, 4436}, {255, 254, 15472}, {254, 255, 46499}, {0, 255, 3520},
            {255, 0, 12824}, {128, 127, 8590}, {5, 182, 0}, {249, 29, 65535},
        };
        for (int[] row : due) {
            Net x = new Net();
            x.join(row[0], -1);
            x.join(row[1], row[0]);
            x.deliver(0);
            Due.is("token of " + row[0] + " for " + row[1], x.datagram(0, 5), row[2]);
        }
    }

    private static void tokenChangesEveryEightTicks() {
        Due.shows("Promise 9", "The EPOCH is 1 + CLOCK / 8, without remainder");
        int[][] due = {
            {0, 40200}, {7, 40200}, {8, 4937}, {15, 4937}, {16, 34219}, {23, 34219},
            {503, 14970}, {504, 20318},
        };
        for (int[] row : due) {
            Net x = new Net();
            x.join(0, -1);
            Steps.ticks(x, row[0]);
            x.join(1, 0);
            x.deliver(0);
            Due.is("token at CLOCK " + row[0], x.datagram(0, 5), row[1]);
        }
    }

    private static void tokenIsOfTheDelivery() {
        Due.shows("Promise 10", "the token of r for s in the epoch now");
        Net x = new Net();
        x.join(0, -1);
        Steps.ticks(x, 7);
        x.join(1, 0);
        x.tick();
        x.deliver(0);
        Due.is("asked at 7, answered at 8", x.datagram(0, 5), 4937);
        x.tick();
        Due.is("it stays as it was sent", x.datagram(0, 5), 4937);
    }

    private static void deliverFromEveryPlace() {
        Due.shows("Promise 10", "1 when its receiver is up .. -1, refused, when there is no such"
                + " datagram");
        for (int k = 0; k <= 2; k++) {
            Net x = new Net();
            x.join(0, -1);
            for (int p = 1; p <= 3; p++) {
                x.join(p, 0);
            }
            Due.is("deliver(-1)", x.deliver(-1), -1);
            Due.is("deliver(3)", x.deliver(3), -1);
            Due.is("waiting()", x.waiting(), 3);
            Due.is("deliver(" + k + ")", x.deliver(k), 1);
            Steps.areContacts("its sender is seen", x, 0, 0, k + 1);
            Due.is("the first that is left", x.datagram(0, 1), k == 0 ? 2 : 1);
            Due.is("the second that is left", x.datagram(1, 1), k == 2 ? 2 : 3);
            Due.is("the answer", x.datagram(2, 2), k + 1);
            Due.is("waiting()", x.waiting(), 3);
        }
    }

    private static void deliverToOneNotUpIsAll() {
        Due.shows("Promise 10", "0 when it is not; If its receiver is not up, that is all");
        Net x = new Net();
        x.join(0, -1);
        x.join(1, 0);
        x.join(2, 0);
        x.leave(0);
        Due.is("deliver(1)", x.deliver(1), 0);
        Due.is("waiting()", x.waiting(), 1);
        Due.is("the other is left", x.datagram(0, 1), 1);
        Steps.areCandidates("the sender still waits", x, 2, 0 + ASKED);
        x.join(0, -1);
        Due.is("nobody was seen", x.contact(0, 0, 0), -1);
        Due.is("deliver(0), up again", x.deliver(0), 1);
        Steps.areContacts("one is seen", x, 0, 0, 1);
        Due.is("deliver(1), none there", x.deliver(1), -1);
    }

    private static void deliverFromOneNotUp() {
        Due.shows("Promise 10", "r first sees the sender s (whether or not s is up)");
        Net x = new Net();
        x.join(0, -1);
        x.join(1, 0);
        x.leave(1);
        Due.is("deliver(0)", x.deliver(0), 1);
        Steps.areContacts("one not up is seen", x, 0, 0, 1);
        Steps.isDatagram("and is answered", x, 0, 2, 0, 1, 1, -1, 40200);
        Due.is("deliver(0), to one not up", x.deliver(0), 0);
        Due.is("waiting()", x.waiting(), 0);
    }

    private static void dropFromEveryPlace() {
        Due.shows("Promise 11", "The k-th waiting datagram is taken out of the line .. true;"
                + " false when there is no such datagram");
        for (int k = 0; k <= 2; k++) {
            Net x = crowded(3);
            Due.is("drop(-1)", x.drop(-1), false);
            Due.is("drop(3)", x.drop(3), false);
            Due.is("waiting()", x.waiting(), 3);
            Due.is("drop(" + k + ")", x.drop(k), true);
            Due.is("waiting()", x.waiting(), 2);
            Due.is("the first that is left", x.datagram(0, 3), k == 0 ? 2 : 1);
            Due.is("the second that is left", x.datagram(1, 3), k == 2 ? 2 : 3);
            Due.is("datagram(2, 3)", x.datagram(2, 3), -1);
        }
        Net y = crowded(24);
        Due.is("24: drop(24)", y.drop(24), false);
        Due.is("24: drop(23)", y.drop(23), true);
        Due.is("23: drop(23)", y.drop(23), false);
        Net z = crowded(1);
        Due.is("1: drop(0)", z.drop(0), true);
        Due.is("0: drop(0)", z.drop(0), false);
    }

    private static void dropIsAll() {
        Due.shows("Promise 11", "and that is all");
        Net x = crowded(1);
        x.drop(0);
        Due.is("nobody is seen", x.contact(0, 0, 0), -1);
        Steps.areCandidates("the sender does not know", x, 1, 0 + ASKED);
        Due.is("waiting()", x.waiting(), 0);
        Due.is("three ticks", x.tick() + x.tick() + x.tick(), 0);
        Due.is("the fourth", x.tick(), 1);
    }

    private static void nodesTellContactsAndHolders() {
        Due.shows("Promise 9", "6 .. 8 its contacts in order, 9 .. 11 its holders in order");
        Net x = new Net();
        x.join(0, -1);
        int[] announcers = {1, 2, 3};
        for (int p : announcers) {
            x.join(p, 0);
            Steps.deliverAll(x);
            x.begin(p, 2, 11);
            Steps.deliverAll(x);
        }
        x.join(9, 0);
        x.deliver(0);
        // Distances from 9: 1 has 8, 3 has 10, 2 has 11.
        Steps.isDatagram("NODES to a FIND", x, 0, 2, 0, 9, 7, -1, 53375, 1, 3, 2);
        Steps.silentTicks(x, 4);
        x.begin(9, 1, 11);
        x.deliver(0);
        // Distances from 11: 3 has 8, 2 has 9, 1 has 10.
        Steps.isDatagram("NODES to a GET", x, 0, 2, 0, 9, 8, -1, 53375, 3, 2, 1, 1, 2, 3);
    }
}
