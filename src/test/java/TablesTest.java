/** The bounds that Terms name for a table, and promises 15 to 18. */
public final class TablesTest {
    private static final int MISS = 256;
    private static final int HELD = 256;
    private static final int AGO = 1024;

    private TablesTest() {
    }

    public static void main(String[] args) {
        firstBucketHasAllNumbers();
        bucketIsTouchedByTheJoin();
        threeContactsAtMost();
        contactMovesFromEveryPlace();
        contactLosesItsMisses();
        fullBucketOnlyMoves();
        halvesMeetInTheMiddle();
        halvesMeetInTheMiddleAgain();
        splitKeepsTheOrder();
        splitKeepsTheMisses();
        splitOnce();
        splitToTheLast();
        splitKeepsTheTouch();
        splitThatBringsNoRoom();
        bucketApartIsNotSplit();
        twoMissesMakeRoom();
        threeMissesMakeRoom();
        firstOfTheTiredGoes();
        splitComesBeforeGivingUp();
        givenUpBehindASplit();
        onlyTheBucketOfTheSeenIsTouched();
        bucketsCountsUpAndDown();
        bucketHasAPlace();
        contactHasAPlace();
        closestOfSoMany();
        closestHasAPlace();
        closestToNumbersOnly();
        closestIsNeverThePeer();
        answersAreSeenToo();
        closestGoesByDistance();
        Due.end();
    }

    /** p looks in vain for the target: each of its three contacts gets one miss more. */
    private static void missThree(Net x, int p, int target) {
        x.begin(p, 0, target);
        Steps.silentTicks(x, 8);
    }

    /** p looks in vain for the target: the two contacts closest to it get one miss more. */
    private static void missTwo(Net x, int p, int target) {
        x.begin(p, 0, target);
        Steps.silentTicks(x, 4);
    }

    private static void firstBucketHasAllNumbers() {
        Due.shows("Promise 15", "its BUCKETS are ranges of numbers, at first one for 0 .. 255");
        Net x = Steps.host(100, 0, 255);
        Due.is("buckets(100)", x.buckets(100), 1);
        Due.is("bucket(100, 0)", x.bucket(100, 0), 0 + HELD * 2);
        Steps.areContacts("the least and the greatest number", x, 100, 0, 0, 255);
    }

    private static void bucketIsTouchedByTheJoin() {
        Due.shows("Promise 16", "the CLOCK at which it was last TOUCHED, at first that of p's"
                + " join");
        Net x = new Net();
        Steps.ticks(x, 5);
        x.join(100, -1);
        Due.is("bucket(100, 0) at once", x.bucket(100, 0), 0);
        x.tick();
        Due.is("bucket(100, 0) a tick later", x.bucket(100, 0), AGO);
        x.leave(100);
        x.tick();
        x.join(100, -1);
        Due.is("bucket(100, 0) anew", x.bucket(100, 0), 0);
    }

    private static void threeContactsAtMost() {
        Due.shows("Promise 16", "(b) Otherwise, if the bucket whose range has c holds fewer than"
                + " 3, c is put at its end with no misses");
        Net x = Steps.host(0);
        Due.is("none: bucket(0, 0)", x.bucket(0, 0), 0);
        Steps.see(x, 0, 10);
        Steps.areContacts("put first", x, 0, 0, 10);
        x.tick();
        Steps.see(x, 0, 20);
        Due.is("two: bucket(0, 0)", x.bucket(0, 0), HELD * 2);
        Steps.areContacts("put second", x, 0, 0, 10, 20);
        x.tick();
        Steps.see(x, 0, 5);
        Due.is("three: bucket(0, 0)", x.bucket(0, 0), HELD * 3);
        Due.is("three: buckets(0)", x.buckets(0), 1);
        Steps.areContacts("put third", x, 0, 0, 10, 20, 5);
        Steps.see(x, 0, 40);
        Due.is("four: buckets(0)", x.buckets(0), 4);
        Steps.areContacts("the three", x, 0, 0, 10, 20, 5);
        Steps.areContacts("the fourth", x, 0, 1, 40);
    }

    private static void contactMovesFromEveryPlace() {
        Due.shows("Promise 17", "(a) If c is a contact, it goes to the end of its bucket");
        Net x = Steps.host(0, 9, 8, 7);
        Steps.see(x, 0, 7);
        Steps.areContacts("from the end", x, 0, 0, 9, 8, 7);
        Steps.see(x, 0, 8);
        Steps.areContacts("from the middle", x, 0, 0, 9, 7, 8);
        Steps.see(x, 0, 9);
        Steps.areContacts("from the front", x, 0, 0, 7, 8, 9);
        Net y = Steps.host(0, 9);
        Steps.see(y, 0, 9);
        Steps.areContacts("alone", y, 0, 0, 9);
    }

    private static void contactLosesItsMisses() {
        Due.shows("Promise 17", "(a) .. and its misses become 0");
        for (int misses = 0; misses <= 3; misses++) {
            Net x = Steps.host(0, 9, 8);
            for (int i = 0; i < misses; i++) {
                missTwo(x, 0, 9);
            }
            Steps.areContacts("both missed", x, 0, 0, 9 + MISS * misses, 8 + MISS * misses);
            Steps.see(x, 0, 9);
            Steps.areContacts("one is seen", x, 0, 0, 8 + MISS * misses, 9);
        }
    }

    private static void fullBucketOnlyMoves() {
        Due.shows("Promise 15", "(a) If c is a contact, it goes to the end of its bucket",
                "it splits nothing");
        Net x = Steps.host(0, 9, 8, 7);
        x.tick();
        Steps.see(x, 0, 9);
        Due.is("buckets(0)", x.buckets(0), 1);
        Due.is("bucket(0, 0)", x.bucket(0, 0), HELD * 3);
    }

    private static void halvesMeetInTheMiddle() {
        Due.shows("Promise 16", "the bucket is SPLIT into the lower and the upper half of its"
                + " range, each contact goes into its half");
        Net x = Steps.host(10, 127, 128, 126, 129);
        Due.is("buckets(10)", x.buckets(10), 2);
        Due.is("bucket(10, 0)", x.bucket(10, 0), 0 + HELD * 2);
        Due.is("bucket(10, 1)", x.bucket(10, 1), 128 + HELD * 2);
        Steps.areContacts("lower half", x, 10, 0, 127, 126);
        Steps.areContacts("upper half", x, 10, 1, 128, 129);
        Net y = Steps.host(200, 128, 127, 126, 129);
        Steps.areContacts("lower half of 200", y, 200, 0, 127, 126);
        Steps.areContacts("upper half of 200", y, 200, 1, 128, 129);
        Net z = Steps.host(200, 0, 254, 255, 1);
        Steps.areContacts("the ends, lower half", z, 200, 0, 0, 1);
        Steps.areContacts("the ends, upper half", z, 200, 1, 254, 255);
    }

    private static void halvesMeetInTheMiddleAgain() {
        Due.shows("Promise 16", "(c) .. if the range of that bucket has p itself");
        Net x = Steps.host(192, 191, 192 + 1, 128, 255, 190);
        // 191, 193 and 128 fill all; 255 halves it at 128, but 0 .. 127 stays empty: once more.
        Due.is("buckets(192)", x.buckets(192), 3);
        Due.is("bucket(192, 0)", x.bucket(192, 0), 0);
        Due.is("bucket(192, 1)", x.bucket(192, 1), 128 + HELD * 3);
        Due.is("bucket(192, 2)", x.bucket(192, 2), 192 + HELD * 2);
        Steps.areContacts("128 .. 191", x, 192, 1, 191, 128, 190);
        Steps.areContacts("192 .. 255", x, 192, 2, 193, 255);
        Net y = Steps.host(63, 62, 64, 1, 127, 65);
        Steps.areContacts("0 .. 63", y, 63, 0, 62, 1);
        Steps.areContacts("64 .. 127", y, 63, 1, 64, 127, 65);
        Due.is("bucket(63, 2)", y.bucket(63, 2), 128);
    }

    private static void splitKeepsTheOrder() {
        Due.shows("Promise 17", "(c) .. their order kept");
        Net x = Steps.host(0, 201, 2, 200, 1);
        Steps.areContacts("lower half", x, 0, 0, 2, 1);
        Steps.areContacts("upper half", x, 0, 1, 201, 200);
        Net y = Steps.host(0, 3, 2, 1, 200);
        Steps.areContacts("all in the lower half", y, 0, 0, 3, 2, 1);
        Steps.areContacts("none in the upper half", y, 0, 1, 200);
    }

    private static void splitKeepsTheMisses() {
        Due.shows("Promise 17", "each contact has a number of MISSES");
        Net x = Steps.host(0, 1, 200, 2);
        missTwo(x, 0, 200);
        Steps.areContacts("before the split", x, 0, 0, 1 + MISS, 200 + MISS, 2);
        Steps.see(x, 0, 3);
        Steps.areContacts("lower half", x, 0, 0, 1 + MISS, 2, 3);
        Steps.areContacts("upper half", x, 0, 1, 200 + MISS);
    }

    private static void splitOnce() {
        Due.shows("Promise 15", "it may have to be split again", "not if c's half has room");
        Net x = Steps.host(0, 1, 2, 3, 128);
        Due.is("buckets(0)", x.buckets(0), 2);
        Net y = Steps.host(0, 1, 2, 3, 127);
        Due.is("once more: buckets(0)", y.buckets(0), 3);
        Due.is("once more: bucket(0, 1)", y.bucket(0, 1), 64 + HELD);
        Net z = Steps.host(0, 1, 2, 3, 63);
        Due.is("twice more: buckets(0)", z.buckets(0), 4);
        Due.is("twice more: bucket(0, 1)", z.bucket(0, 1), 32 + HELD);
    }

    private static void splitToTheLast() {
        Due.shows("Promise 15", "(c) .. it may have to be split again");
        areFirsts(Steps.host(0, 1, 2, 3, 4), 0, 0, 4, 8, 16, 32, 64, 128);
        areFirsts(Steps.host(127, 126, 125, 124, 123), 127, 0, 64, 96, 112, 120, 124, 128);
        areFirsts(Steps.host(128, 129, 130, 131, 132), 128, 0, 128, 132, 136, 144, 160, 192);
        areFirsts(Steps.host(255, 254, 253, 252, 251), 255, 0, 128, 192, 224, 240, 248, 252);
        Net x = Steps.host(0, 1, 2, 3, 4);
        Steps.areContacts("the last four numbers", x, 0, 0, 1, 2, 3);
        Steps.areContacts("the four beside them", x, 0, 1, 4);
    }

    private static void areFirsts(Net x, int p, int... firsts) {
        Due.is("buckets(" + p + ")", x.buckets(p), firsts.length);
        for (int b = 0; b < firsts.length; b++) {
            Due.is("first number of bucket " + b + " of " + p, x.bucket(p, b) & 255, firsts[b]);
        }
    }

    private static void splitKeepsTheTouch() {
        Due.shows("Promise 16", "both halves were touched when the bucket was");
        Net x = Steps.host(0, 2, 200);
        Steps.ticks(x, 2);
        Steps.see(x, 0, 1);
        Steps.ticks(x, 3);
        Steps.see(x, 0, 4);
        Due.is("bucket(0, 0), where 4 was put", x.bucket(0, 0), 0 + HELD * 3);
        Due.is("bucket(0, 1)", x.bucket(0, 1), 128 + HELD + AGO * 3);
        Net y = Steps.host(0, 1, 2, 3);
        Steps.ticks(y, 3);
        Steps.see(y, 0, 9);
        Due.is("split again: bucket(0, 0)", y.bucket(0, 0), 0 + HELD * 3 + AGO * 3);
        Due.is("split again: bucket(0, 1)", y.bucket(0, 1), 8 + HELD);
        Due.is("split again: bucket(0, 2)", y.bucket(0, 2), 16 + AGO * 3);
        Due.is("split again: bucket(0, 5)", y.bucket(0, 5), 128 + AGO * 3);
    }

    private static void splitThatBringsNoRoom() {
        Due.shows("Promise 17", "(d) .. if there is none, nothing happens");
        Net x = Steps.host(128, 0, 1, 2);
        x.tick();
        Steps.see(x, 128, 3);
        Due.is("buckets(128)", x.buckets(128), 2);
        Steps.areContacts("full", x, 128, 0, 0, 1, 2);
        Due.is("bucket(128, 0), not touched", x.bucket(128, 0), 0 + HELD * 3 + AGO);
        Due.is("bucket(128, 1), not touched", x.bucket(128, 1), 128 + AGO);
    }

    private static void bucketApartIsNotSplit() {
        Due.shows("Promise 15", "if the range of that bucket has p itself, the bucket is SPLIT",
                "no other is");
        Net x = Steps.host(128, 0, 1, 100, 127, 50);
        Due.is("buckets(128)", x.buckets(128), 2);
        Steps.areContacts("full", x, 128, 0, 0, 1, 100);
        Net y = Steps.host(127, 128, 129, 255, 200, 254);
        Due.is("buckets(127)", y.buckets(127), 2);
        Steps.areContacts("full above", y, 127, 1, 128, 129, 255);
    }

    private static void twoMissesMakeRoom() {
        Due.shows("Promise 17", "(d) Otherwise the first contact of that bucket with 2 or more"
                + " misses, if there is one, is taken out, and c is put at the end with no misses");
        Net x = Steps.host(128, 0, 1, 2, 3);
        Steps.see(x, 128, 3);
        Steps.areContacts("no miss is not enough", x, 128, 0, 0, 1, 2);
        missThree(x, 128, 2);
        Steps.see(x, 128, 3);
        Steps.areContacts("one miss is not enough", x, 128, 0, MISS, 1 + MISS, 2 + MISS);
        Due.is("bucket(128, 0), not touched", x.bucket(128, 0), 0 + HELD * 3 + AGO * 8);
        missTwo(x, 128, 1);
        Steps.areContacts("two misses", x, 128, 0, MISS * 2, 1 + MISS * 2, 2 + MISS);
        Steps.see(x, 128, 3);
        Steps.areContacts("two misses are enough", x, 128, 0, 1 + MISS * 2, 2 + MISS, 3);
        Due.is("bucket(128, 0), touched", x.bucket(128, 0), 0 + HELD * 3);
    }

    private static void threeMissesMakeRoom() {
        Due.shows("Promise 17", "(d) .. 2 or more misses");
        Net x = Steps.host(128, 0, 1, 2, 3);
        missThree(x, 128, 2);
        missThree(x, 128, 2);
        missThree(x, 128, 2);
        Steps.areContacts("three misses", x, 128, 0, MISS * 3, 1 + MISS * 3, 2 + MISS * 3);
        Steps.see(x, 128, 3);
        Steps.areContacts("the first goes", x, 128, 0, 1 + MISS * 3, 2 + MISS * 3, 3);
    }

    private static void firstOfTheTiredGoes() {
        Due.shows("Promise 17", "the first contact of that bucket with 2 or more misses");
        Net x = Steps.host(128, 0, 1, 2, 3);
        missThree(x, 128, 3);
        missTwo(x, 128, 3);
        Steps.areContacts("two are tired", x, 128, 0, MISS, 1 + MISS * 2, 2 + MISS * 2);
        Steps.see(x, 128, 3);
        Steps.areContacts("the second goes", x, 128, 0, MISS, 2 + MISS * 2, 3);
        Steps.see(x, 128, 4);
        Steps.areContacts("the new second goes", x, 128, 0, MISS, 3, 4);
        Steps.see(x, 128, 5);
        Steps.areContacts("nobody goes", x, 128, 0, MISS, 3, 4);
        Net z = Steps.host(128, 0, 1, 2, 3);
        missThree(z, 128, 3);
        missThree(z, 128, 3);
        missTwo(z, 128, 3);
        Steps.areContacts("others are more tired", z, 128, 0, MISS * 2, 1 + MISS * 3, 2 + MISS * 3);
        Steps.see(z, 128, 3);
        Steps.areContacts("the first goes", z, 128, 0, 1 + MISS * 3, 2 + MISS * 3, 3);
        Net y = Steps.host(128, 0, 1, 2, 3);
        missThree(y, 128, 2);
        missTwo(y, 128, 2);
        Steps.see(y, 128, 0);
        Steps.areContacts("one is tired", y, 128, 0, 1 + MISS, 2 + MISS * 2, 0);
        Steps.see(y, 128, 1);
        Steps.areContacts("it stands first", y, 128, 0, 2 + MISS * 2, 0, 1);
        Steps.see(y, 128, 4);
        Steps.areContacts("it goes", y, 128, 0, 0, 1, 4);
    }

    private static void splitComesBeforeGivingUp() {
        Due.shows("Promise 17", "(c) Otherwise, if the range of that bucket has p itself, the"
                + " bucket is SPLIT", "it gives up nobody");
        Net x = Steps.host(0, 1, 2, 200);
        missThree(x, 0, 0);
        missThree(x, 0, 0);
        Steps.see(x, 0, 3);
        Steps.areContacts("lower half", x, 0, 0, 1 + MISS * 2, 2 + MISS * 2, 3);
        Steps.areContacts("upper half", x, 0, 1, 200 + MISS * 2);
    }

    private static void givenUpBehindASplit() {
        Due.shows("Promise 17", "c is seen anew, from (b)", "its half may be one of (d)");
        Net x = Steps.host(128, 0, 1, 2);
        missThree(x, 128, 2);
        missTwo(x, 128, 2);
        Due.is("buckets(128)", x.buckets(128), 1);
        Steps.areContacts("two are tired", x, 128, 0, MISS * 2, 1 + MISS, 2 + MISS * 2);
        Steps.see(x, 128, 3);
        Due.is("split: buckets(128)", x.buckets(128), 2);
        Steps.areContacts("the first of them goes", x, 128, 0, 1 + MISS, 2 + MISS * 2, 3);
        Due.is("bucket(128, 0), touched now", x.bucket(128, 0), 0 + HELD * 3);
        Due.is("bucket(128, 1), touched by the begin", x.bucket(128, 1), 128 + AGO * 4);
    }

    private static void onlyTheBucketOfTheSeenIsTouched() {
        Due.shows("Promise 16", "Where c was put or moved, the bucket is touched now");
        Net x = Steps.host(0, 1, 2, 200, 3);
        x.tick();
        Steps.see(x, 0, 201);
        Due.is("put: bucket(0, 0)", x.bucket(0, 0), 0 + HELD * 3 + AGO);
        Due.is("put: bucket(0, 1)", x.bucket(0, 1), 128 + HELD * 2);
        x.tick();
        Steps.see(x, 0, 2);
        Due.is("moved: bucket(0, 0)", x.bucket(0, 0), 0 + HELD * 3);
        Due.is("moved: bucket(0, 1)", x.bucket(0, 1), 128 + HELD * 2 + AGO);
        x.tick();
        Steps.see(x, 0, 2);
        Due.is("moved to where it was: bucket(0, 0)", x.bucket(0, 0), 0 + HELD * 3);
    }

    private static void bucketsCountsUpAndDown() {
        Due.shows("Promise 15", "How many buckets p's table has; -1 when p is not up");
        Net x = new Net();
        Due.is("never joined: buckets(0)", x.buckets(0), -1);
        x.join(0, -1);
        Due.is("empty: buckets(0)", x.buckets(0), 1);
        int[] guests = {1, 2, 3, 4};
        for (int guest : guests) {
            Steps.see(x, 0, guest);
        }
        Due.is("split: buckets(0)", x.buckets(0), 7);
        Due.is("buckets(-1)", x.buckets(-1), -1);
        Due.is("buckets(256)", x.buckets(256), -1);
        x.leave(0);
        Due.is("left: buckets(0)", x.buckets(0), -1);
        x.join(0, -1);
        Due.is("anew: buckets(0)", x.buckets(0), 1);
    }

    private static void bucketHasAPlace() {
        Due.shows("Promise 16", "Bucket b of p's table (0 the one with the least numbers) .. -1"
                + " when p is not up or there is no such bucket");
        Net x = Steps.host(0, 1, 2, 3, 128);
        Due.is("bucket(0, -1)", x.bucket(0, -1), -1);
        Due.is("bucket(0, 0)", x.bucket(0, 0), 0 + HELD * 3);
        Due.is("bucket(0, 1)", x.bucket(0, 1), 128 + HELD);
        Due.is("bucket(0, 2)", x.bucket(0, 2), -1);
        Due.is("bucket(1, 0)", x.bucket(1, 0), 0 + HELD);
        Due.is("bucket(1, 1)", x.bucket(1, 1), -1);
        Due.is("bucket(-1, 0)", x.bucket(-1, 0), -1);
        Due.is("bucket(256, 0)", x.bucket(256, 0), -1);
        Due.is("bucket(4, 0)", x.bucket(4, 0), -1);
        x.leave(0);
        Due.is("left: bucket(0, 0)", x.bucket(0, 0), -1);
    }

    private static void contactHasAPlace() {
        Due.shows("Promise 17", "Contact j (0 the front) of bucket b of p's table .. -1 when p is"
                + " not up or there is no such bucket or contact");
        Net x = Steps.host(0, 1, 2, 3, 64);
        Due.is("contact(0, 0, -1)", x.contact(0, 0, -1), -1);
        Due.is("contact(0, 0, 0)", x.contact(0, 0, 0), 1);
        Due.is("contact(0, 0, 2)", x.contact(0, 0, 2), 3);
        Due.is("contact(0, 0, 3)", x.contact(0, 0, 3), -1);
        Due.is("contact(0, 1, 0)", x.contact(0, 1, 0), 64);
        Due.is("contact(0, 1, 1)", x.contact(0, 1, 1), -1);
        Due.is("contact(0, 2, 0), of an empty one", x.contact(0, 2, 0), -1);
        Due.is("contact(0, 3, 0)", x.contact(0, 3, 0), -1);
        Due.is("contact(0, -1, 0)", x.contact(0, -1, 0), -1);
        Due.is("contact(-1, 0, 0)", x.contact(-1, 0, 0), -1);
        Due.is("contact(256, 0, 0)", x.contact(256, 0, 0), -1);
        Due.is("contact(4, 0, 0)", x.contact(4, 0, 0), -1);
        x.leave(0);
        Due.is("left: contact(0, 0, 0)", x.contact(0, 0, 0), -1);
    }

    private static void closestOfSoMany() {
        Due.shows("Promise 18", "or there are not so many contacts");
        int[] guests = {5, 64, 200, 129};
        // Distances from 69: 64 has 5, 5 has 64, 200 has 141, 129 has 196.
        int[][] due = {{-1, -1, -1}, {5, -1, -1}, {64, 5, -1}, {64, 5, 200}, {64, 5, 200}};
        Net x = Steps.host(128);
        for (int n = 0; n <= 4; n++) {
            for (int j = 0; j <= 2; j++) {
                Due.is("of " + n + ": closest(128, 69, " + j + ")", x.closest(128, 69, j),
                        due[n][j]);
            }
            Due.is("of " + n + ": closest(128, 69, 3)", x.closest(128, 69, 3), -1);
            if (n < 4) {
                Steps.see(x, 128, guests[n]);
            }
        }
    }

    private static void closestHasAPlace() {
        Due.shows("Promise 18", "-1 when p is not up .. j is not 0 .. 2");
        Net x = Steps.host(128, 5, 64, 200, 129, 140);
        Due.is("closest(128, 69, -1)", x.closest(128, 69, -1), -1);
        Due.is("closest(128, 69, 0)", x.closest(128, 69, 0), 64);
        Due.is("closest(128, 69, 2)", x.closest(128, 69, 2), 200);
        Due.is("closest(128, 69, 3), though there is a fourth", x.closest(128, 69, 3), -1);
        Due.is("closest(128, 69, 4), though there is a fifth", x.closest(128, 69, 4), -1);
        Due.is("closest(-1, 69, 0)", x.closest(-1, 69, 0), -1);
        Due.is("closest(256, 69, 0)", x.closest(256, 69, 0), -1);
        Due.is("closest(4, 69, 0)", x.closest(4, 69, 0), -1);
        x.leave(128);
        Due.is("left: closest(128, 69, 0)", x.closest(128, 69, 0), -1);
    }

    private static void closestToNumbersOnly() {
        Due.shows("Promise 18", "the target is no number");
        Net x = Steps.host(128, 0, 64, 255, 129);
        Due.is("closest(128, -1, 0)", x.closest(128, -1, 0), -1);
        Due.is("closest(128, 0, 0), at no distance", x.closest(128, 0, 0), 0);
        Due.is("closest(128, 0, 2)", x.closest(128, 0, 2), 129);
        Due.is("closest(128, 255, 0)", x.closest(128, 255, 0), 255);
        Due.is("closest(128, 255, 2)", x.closest(128, 255, 2), 64);
        Due.is("closest(128, 256, 0)", x.closest(128, 256, 0), -1);
    }

    private static void closestIsNeverThePeer() {
        Due.shows("Promise 18", "CONTACTS, which are numbers other than p");
        Net x = Steps.host(128, 129, 0, 1);
        Steps.joinAndFind(x, 2, 128);
        Steps.joinAndFind(x, 130, 2);
        int[] peers = {128, 2, 130};
        for (int p : peers) {
            Due.is("closest(" + p + ", " + p + ", 0) is another",
                    x.closest(p, p, 0) != p && x.closest(p, p, 0) >= 0, true);
        }
    }

    private static void answersAreSeenToo() {
        Due.shows("Promise 17", "the receiver r first sees the sender s",
                "also that of NODES and STORE");
        Net x = new Net();
        x.join(0, -1);
        Steps.see(x, 0, 1);
        Steps.see(x, 0, 2);
        x.begin(0, 0, 1);
        x.drop(1);
        x.deliver(0);
        Steps.ticks(x, 1);
        x.deliver(0);
        Steps.areContacts("NODES", x, 0, 0, 2, 1);
        Due.is("NODES: bucket(0, 0)", x.bucket(0, 0), 512);
        Steps.silentTicks(x, 4);
        x.begin(0, 2, 2);
        Steps.deliverAll(x);
        x.leave(1);
        x.join(1, -1);
        x.begin(0, 2, 2);
        for (int i = 0; i < 24 && x.datagram(0, 0) != 3; i++) {
            x.deliver(0);
        }
        x.leave(2);
        x.join(2, -1);
        x.leave(0);
        Due.is("STORE: no contact yet", x.contact(2, 0, 0), -1);
        Due.is("STORE: deliver(0)", x.deliver(0), 1);
        Steps.areContacts("STORE, from one that left", x, 2, 0, 0);
        Due.is("a token of this epoch is taken", x.entry(2, 0) & 65535, 2);
    }

    private static void closestGoesByDistance() {
        Due.shows("Promise 18", "The j-th closest (0 the closest) of all contacts of p's table to"
                + " the target");
        Net x = Steps.host(128, 5, 64, 200, 129, 140);
        // Distances from 69: 5 has 64, 64 has 5, 200 has 141, 129 has 196, 140 has 201.
        Due.is("closest(128, 69, 0)", x.closest(128, 69, 0), 64);
        Due.is("closest(128, 69, 1)", x.closest(128, 69, 1), 5);
        Due.is("closest(128, 69, 2)", x.closest(128, 69, 2), 200);
        Due.is("closest(128, 129, 0)", x.closest(128, 129, 0), 129);
        Due.is("closest(128, 129, 1)", x.closest(128, 129, 1), 140);
        Due.is("closest(128, 129, 2)", x.closest(128, 129, 2), 200);
        Due.is("closest(128, 0, 0)", x.closest(128, 0, 0), 5);
        Due.is("closest(128, 255, 0)", x.closest(128, 255, 0), 200);
        Due.is("closest of one: the peer itself is none", x.closest(5, 5, 0), 128);
        Due.is("closest of one: no second", x.closest(5, 5, 1), -1);
        Net y = Steps.host(9, 0);
        Due.is("a contact at no distance", y.closest(9, 0, 0), 0);
    }
}
