/** Promises 15 (buckets), 16 (bucket), 17 (contact) and 18 (closest). */
public final class TablesTest {
    private TablesTest() {
    }

    public static void main(String[] args) {
        newOnesGoToTheEnd();
        knownOnesMoveToTheEnd();
        seenAnewHasNoMisses();
        splitKeepsOrderAndTouch();
        splitAgainAndAgain();
        splitStaysThoughNothingIsPut();
        missesGoWithTheirContact();
        firstTiredContactYields();
        oneMissIsNotEnough();
        answersAreSeenToo();
        bucketsIsRefused();
        bucketIsRefused();
        contactIsRefused();
        closestGoesByDistance();
        closestIsRefused();
        Due.end();
    }

    private static void newOnesGoToTheEnd() {
        Net x = Steps.host(0, 9);
        x.tick();
        Due.is("one: bucket(0, 0)", x.bucket(0, 0), 256 + 1024);
        Steps.see(x, 0, 255);
        Due.is("two: bucket(0, 0)", x.bucket(0, 0), 512);
        Steps.see(x, 0, 1);
        Due.is("three: bucket(0, 0)", x.bucket(0, 0), 768);
        Due.is("three: buckets(0)", x.buckets(0), 1);
        Steps.areContacts("three", x, 0, 0, 9, 255, 1);
    }

    private static void knownOnesMoveToTheEnd() {
        Net x = Steps.host(0, 9, 8, 7);
        Steps.ticks(x, 2);
        Steps.see(x, 0, 8);
        Steps.areContacts("8 moves", x, 0, 0, 9, 7, 8);
        Due.is("8 moves: bucket(0, 0)", x.bucket(0, 0), 768);
        Due.is("8 moves: no split", x.buckets(0), 1);
        Steps.see(x, 0, 9);
        Steps.areContacts("9 moves", x, 0, 0, 7, 8, 9);
        Steps.see(x, 0, 9);
        Steps.areContacts("9 stays", x, 0, 0, 7, 8, 9);
    }

    private static void seenAnewHasNoMisses() {
        Net x = Steps.host(0, 9, 8);
        x.begin(0, 0, 9);
        Steps.silentTicks(x, 4);
        Steps.areContacts("missed", x, 0, 0, 9 + 256, 8 + 256);
        x.begin(0, 0, 9);
        Steps.silentTicks(x, 4);
        Steps.areContacts("missed twice", x, 0, 0, 9 + 512, 8 + 512);
        Steps.see(x, 0, 9);
        Steps.areContacts("seen", x, 0, 0, 8 + 512, 9);
    }

    private static void splitKeepsOrderAndTouch() {
        Net x = Steps.host(0, 2);
        x.tick();
        Steps.see(x, 0, 200);
        x.tick();
        Steps.see(x, 0, 1);
        x.tick();
        Steps.see(x, 0, 4);
        Due.is("split: buckets(0)", x.buckets(0), 2);
        Steps.areContacts("lower half", x, 0, 0, 2, 1, 4);
        Steps.areContacts("upper half", x, 0, 1, 200);
        Due.is("split: bucket(0, 0)", x.bucket(0, 0), 768);
        Due.is("split: bucket(0, 1)", x.bucket(0, 1), 128 + 256 + 1024);
        Net y = Steps.host(200, 150, 140, 130, 127);
        Due.is("edge: buckets(200)", y.buckets(200), 2);
        Steps.areContacts("edge, lower half", y, 200, 0, 127);
        Steps.areContacts("edge, upper half", y, 200, 1, 150, 140, 130);
        Steps.see(y, 200, 128);
        Due.is("edge: buckets(200)", y.buckets(200), 3);
        Due.is("edge: bucket(200, 1)", y.bucket(200, 1), 128 + 768);
        Due.is("edge: bucket(200, 2)", y.bucket(200, 2), 192);
        Steps.areContacts("edge, full", y, 200, 1, 150, 140, 130);
        Steps.see(y, 200, 192);
        Steps.areContacts("edge, last", y, 200, 2, 192);
    }

    private static void splitAgainAndAgain() {
        Net x = Steps.host(0, 1, 2, 3, 4);
        int[] firsts = {0, 4, 8, 16, 32, 64, 128};
        int[] counts = {3, 1, 0, 0, 0, 0, 0};
        Due.is("again: buckets(0)", x.buckets(0), 7);
        for (int b = 0; b < 7; b++) {
            Due.is("again: bucket(0, " + b + ")", x.bucket(0, b), firsts[b] + 256 * counts[b]);
        }
        Due.is("again: bucket(0, 7)", x.bucket(0, 7), -1);
        Steps.areContacts("again", x, 0, 0, 1, 2, 3);
        Steps.areContacts("again", x, 0, 1, 4);
        Net y = Steps.host(255, 252, 253, 254, 251);
        int[] upper = {0, 128, 192, 224, 240, 248, 252};
        Due.is("at the other end: buckets(255)", y.buckets(255), 7);
        for (int b = 0; b < 7; b++) {
            int count = b == 6 ? 3 : b == 5 ? 1 : 0;
            Due.is("at the other end: bucket", y.bucket(255, b), upper[b] + 256 * count);
        }
    }

    private static void splitStaysThoughNothingIsPut() {
        Net x = Steps.host(128, 0, 1, 2);
        x.tick();
        Steps.see(x, 128, 3);
        Due.is("no room: buckets(128)", x.buckets(128), 2);
        Steps.areContacts("no room", x, 128, 0, 0, 1, 2);
        Due.is("no room: not touched", x.bucket(128, 0), 768 + 1024);
        Due.is("no room: the other half", x.bucket(128, 1), 128 + 1024);
    }

    private static void missesGoWithTheirContact() {
        Net x = Steps.host(0, 1, 200, 2);
        x.begin(0, 0, 200);
        Steps.silentTicks(x, 4);
        Steps.areContacts("before the split", x, 0, 0, 1 + 256, 200 + 256, 2);
        Steps.see(x, 0, 3);
        Steps.areContacts("lower half", x, 0, 0, 1 + 256, 2, 3);
        Steps.areContacts("upper half", x, 0, 1, 200 + 256);
    }

    private static void firstTiredContactYields() {
        Net x = Steps.host(128, 0, 1, 2, 3);
        x.begin(128, 0, 2);
        Steps.silentTicks(x, 8);
        Steps.areContacts("one miss each", x, 128, 0, 0 + 256, 1 + 256, 2 + 256);
        x.begin(128, 0, 2);
        Steps.silentTicks(x, 4);
        Steps.areContacts("two missed twice", x, 128, 0, 0 + 512, 1 + 256, 2 + 512);
        Steps.see(x, 128, 3);
        Steps.areContacts("the first yields", x, 128, 0, 1 + 256, 2 + 512, 3);
        Due.is("the first yields: bucket(128, 0)", x.bucket(128, 0), 768);
        Steps.see(x, 128, 4);
        Steps.areContacts("not the front yields", x, 128, 0, 1 + 256, 3, 4);
        Steps.see(x, 128, 5);
        Steps.areContacts("none yields", x, 128, 0, 1 + 256, 3, 4);
        Due.is("nobody else goes", x.buckets(128), 2);
    }

    private static void oneMissIsNotEnough() {
        Net x = Steps.host(128, 0, 1, 2, 3);
        x.begin(128, 0, 2);
        Steps.silentTicks(x, 8);
        Steps.see(x, 128, 3);
        Steps.areContacts("one miss each", x, 128, 0, 0 + 256, 1 + 256, 2 + 256);
        Due.is("one miss each: not touched", x.bucket(128, 0), 768 + 1024 * 8);
        // A bucket that splits for its peer loses nobody, however many misses.
        Net y = Steps.host(0, 1, 2, 200);
        for (int i = 0; i < 3; i++) {
            y.begin(0, 0, 0);
            Steps.silentTicks(y, 8);
        }
        Steps.see(y, 0, 3);
        Steps.areContacts("split first", y, 0, 0, 1 + 768, 2 + 768, 3);
        Steps.areContacts("split first", y, 0, 1, 200 + 768);
    }

    private static void answersAreSeenToo() {
        Net x = new Net();
        x.join(0, -1);
        Steps.see(x, 0, 1);
        Steps.see(x, 0, 2);
        x.begin(0, 0, 1);
        x.drop(1);
        x.deliver(0);
        Steps.ticks(x, 1);
        x.deliver(0);
        Steps.areContacts("NODES", x, 0, 0, 2, 1);
        Due.is("NODES: bucket(0, 0)", x.bucket(0, 0), 512);
        Steps.silentTicks(x, 4);
        x.begin(0, 2, 2);
        Steps.deliverAll(x);
        x.leave(1);
        x.join(1, -1);
        x.begin(0, 2, 2);
        for (int i = 0; i < 24 && x.datagram(0, 0) != 3; i++) {
            x.deliver(0);
        }
        x.leave(2);
        x.join(2, -1);
        x.leave(0);
        Due.is("STORE: no contact yet", x.contact(2, 0, 0), -1);
        Due.is("STORE: deliver(0)", x.deliver(0), 1);
        Steps.areContacts("STORE, from one that left", x, 2, 0, 0);
        Due.is("a token of this epoch is taken", x.entry(2, 0) & 65535, 2);
    }

    private static void bucketsIsRefused() {
        Net x = Steps.host(0, 1);
        x.leave(1);
        int[] wrong = {-1, 1, 2, 256, Integer.MIN_VALUE, Integer.MAX_VALUE};
        for (int p : wrong) {
            Due.is("buckets(" + p + ")", x.buckets(p), -1);
        }
        Due.is("buckets(0)", x.buckets(0), 1);
    }

    private static void bucketIsRefused() {
        Net x = Steps.host(0, 1, 2, 3, 4);
        x.leave(1);
        int[] wrong = {-1, 7, 8, 9, 10, Integer.MIN_VALUE, Integer.MAX_VALUE};
        for (int b : wrong) {
            Due.is("bucket(0, " + b + ")", x.bucket(0, b), -1);
            Due.is("contact(0, " + b + ", 0)", x.contact(0, b, 0), -1);
        }
        int[] wrongPeers = {-1, 1, 5, 256, Integer.MIN_VALUE, Integer.MAX_VALUE};
        for (int p : wrongPeers) {
            Due.is("bucket(" + p + ", 0)", x.bucket(p, 0), -1);
            Due.is("contact(" + p + ", 0, 0)", x.contact(p, 0, 0), -1);
        }
    }

    private static void contactIsRefused() {
        Net x = Steps.host(0, 1, 2, 3);
        int[] wrong = {-1, 3, 4, Integer.MIN_VALUE, Integer.MAX_VALUE};
        for (int j : wrong) {
            Due.is("contact(0, 0, " + j + ")", x.contact(0, 0, j), -1);
        }
        Due.is("contact(0, 0, 2)", x.contact(0, 0, 2), 3);
        Steps.see(x, 0, 4);
        Due.is("behind the last: contact(0, 1, 1)", x.contact(0, 1, 1), -1);
        Due.is("in an empty one: contact(0, 2, 0)", x.contact(0, 2, 0), -1);
    }

    private static void closestGoesByDistance() {
        Net x = Steps.host(128, 5, 64, 200, 129, 140);
        // Distances from 69: 5 has 64, 64 has 5, 200 has 141, 129 has 196, 140 has 201.
        Due.is("closest(128, 69, 0)", x.closest(128, 69, 0), 64);
        Due.is("closest(128, 69, 1)", x.closest(128, 69, 1), 5);
        Due.is("closest(128, 69, 2)", x.closest(128, 69, 2), 200);
        Due.is("closest(128, 129, 0)", x.closest(128, 129, 0), 129);
        Due.is("closest(128, 129, 1)", x.closest(128, 129, 1), 140);
        Due.is("closest(128, 129, 2)", x.closest(128, 129, 2), 200);
        Due.is("closest(128, 0, 0)", x.closest(128, 0, 0), 5);
        Due.is("closest(128, 255, 0)", x.closest(128, 255, 0), 200);
        Due.is("closest of one: the peer itself is none", x.closest(5, 5, 0), 128);
        Due.is("closest of one: no second", x.closest(5, 5, 1), -1);
        Net y = Steps.host(9, 0);
        Due.is("a contact at no distance", y.closest(9, 0, 0), 0);
    }

    private static void closestIsRefused() {
        Net x = Steps.host(128, 5, 64, 200, 129, 140);
        x.leave(5);
        int[] wrong = {-1, 3, 4, Integer.MIN_VALUE, Integer.MAX_VALUE};
        for (int j : wrong) {
            Due.is("closest(128, 69, " + j + ")", x.closest(128, 69, j), -1);
        }
        int[] wrongTargets = {-1, 256, Integer.MIN_VALUE, Integer.MAX_VALUE};
        for (int target : wrongTargets) {
            Due.is("closest(128, " + target + ", 0)", x.closest(128, target, 0), -1);
        }
        int[] wrongPeers = {-1, 5, 6, 256, Integer.MIN_VALUE, Integer.MAX_VALUE};
        for (int p : wrongPeers) {
            Due.is("closest(" + p + ", 69, 0)", x.closest(p, 69, 0), -1);
        }
        Net y = new Net();
        y.join(0, -1);
        Due.is("no contacts: closest(0, 0, 0)", y.closest(0, 0, 0), -1);
    }
}
