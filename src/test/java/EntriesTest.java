/** The bounds that Terms name for tokens, STORE and entries, and promise 19. */
public final class EntriesTest {
    private static final int HOLDER = 256;
    private static final int TICK = 65536;
    private static final int NEW = 24 * TICK;

    private EntriesTest() {
    }

    public static void main(String[] args) {
        leastAndGreatestKeyAndHolder();
        lastsTwentyFourTicks();
        lengthenedLastsTwentyFourTicks();
        tokenOfNowOrTheEpochBeforeAdds();
        tokenOfNowOrTheEpochBeforeLengthens();
        tokenOfAnotherEpochThatIsTheSame();
        leastAndGreatestToken();
        sixEntriesAtMost();
        sixEntriesAreLengthened();
        sixEntriesOfSixHolders();
        sixAgainWhenOneIsGone();
        keyAndHolderTogether();
        refusedStoreIsStillSeen();
        storeToOneNotUp();
        storeToOneUpAgain();
        storeFromOneNotUp();
        leftAndJoinedHasNone();
        orderIsKept();
        entryHasAPlace();
        Due.end();
    }

    /** The guest knows the host, and no lookup runs. */
    private static Net pair(int host, int guest) {
        Net x = new Net();
        x.join(host, -1);
        Steps.joinAndFind(x, guest, host);
        return x;
    }

    /** p, which knows one peer alone, announces itself, and its STORE waits last in the line. */
    private static void announceUpToStore(Net x, int p, int key) {
        x.begin(p, 2, key);
        x.deliver(x.waiting() - 1);
        x.deliver(x.waiting() - 1);
    }

    private static void leastAndGreatestKeyAndHolder() {
        Due.shows("Promise 19", "its key + 256 * its holder + 65536 * how many ticks from now it"
                + " lasts");
        Net x = pair(1, 255);
        Steps.announce(x, 255, 255);
        Steps.announce(x, 255, 0);
        Due.is("key 255, holder 255", x.entry(1, 0), 255 + HOLDER * 255 + NEW);
        Due.is("key 0, holder 255", x.entry(1, 1), 0 + HOLDER * 255 + NEW);
        Net y = pair(255, 0);
        Steps.announce(y, 0, 0);
        Steps.announce(y, 0, 255);
        Due.is("key 0, holder 0", y.entry(255, 0), 0 + NEW);
        Due.is("key 255, holder 0", y.entry(255, 1), 255 + NEW);
    }

    private static void lastsTwentyFourTicks() {
        Due.shows("Promise 19", "one is added at the end that lasts until CLOCK + 24; Every entry"
                + " .. which lasts until this CLOCK (not behind it) is gone");
        Net x = pair(0, 1);
        Steps.ticks(x, 5);
        Steps.announce(x, 1, 9);
        for (int left = 24; left >= 1; left--) {
            Due.is(left + " ticks left", x.entry(0, 0), 9 + HOLDER + left * TICK);
            x.tick();
        }
        Due.is("none left", x.entry(0, 0), -1);
        x.tick();
        Due.is("nor later", x.entry(0, 0), -1);
    }

    private static void lengthenedLastsTwentyFourTicks() {
        Due.shows("Promise 19", "that entry lasts from now on until CLOCK + 24");
        Net x = pair(0, 1);
        Steps.announce(x, 1, 9);
        Steps.ticks(x, 23);
        Due.is("at its last tick", x.entry(0, 0), 9 + HOLDER + TICK);
        Steps.announce(x, 1, 9);
        Due.is("lengthened", x.entry(0, 0), 9 + HOLDER + NEW);
        Due.is("not twice there", x.entry(0, 1), -1);
        Steps.ticks(x, 23);
        Due.is("at its last tick again", x.entry(0, 0), 9 + HOLDER + TICK);
        x.tick();
        Due.is("gone", x.entry(0, 0), -1);
        Steps.announce(x, 1, 9);
        Due.is("added anew", x.entry(0, 0), 9 + HOLDER + NEW);
    }

    private static final int[][] AGES = {
        // CLOCK at which the token is given, CLOCK of the STORE's delivery, whether it is taken
        {0, 0, 1}, {0, 7, 1}, {0, 8, 1}, {0, 15, 1}, {0, 16, 0}, {7, 8, 1}, {7, 15, 1},
        {7, 16, 0}, {8, 15, 1}, {8, 16, 1}, {8, 23, 1}, {8, 24, 0}, {15, 23, 1}, {15, 24, 0},
        {16, 31, 1}, {16, 32, 0},
    };

    private static void tokenOfNowOrTheEpochBeforeAdds() {
        Due.shows("Promise 19", "STORE: if its token is that of r for s in the epoch now or in"
                + " the epoch now less 1 (0 too is taken for e there) .. one is added at the end"
                + " .. Otherwise nothing more happens");
        for (int[] row : AGES) {
            Net x = pair(0, 1);
            Steps.ticks(x, row[0]);
            announceUpToStore(x, 1, 9);
            Steps.ticks(x, row[1] - row[0]);
            String name = "given at " + row[0] + ", delivered at " + row[1];
            Due.is(name + ": deliver(0)", x.deliver(0), 1);
            Due.is(name, x.entry(0, 0), row[2] == 1 ? 9 + HOLDER + NEW : -1);
        }
    }

    private static void tokenOfNowOrTheEpochBeforeLengthens() {
        Due.shows("Promise 19", "STORE: if its token is that of r for s in the epoch now or in"
                + " the epoch now less 1 (0 too is taken for e there) .. that entry lasts from"
                + " now on .. Otherwise nothing more happens");
        for (int[] row : AGES) {
            Net x = pair(0, 1);
            Steps.ticks(x, row[0]);
            Steps.announce(x, 1, 9);
            announceUpToStore(x, 1, 9);
            int age = row[1] - row[0];
            Steps.ticks(x, age);
            x.deliver(0);
            Due.is("given at " + row[0] + ", delivered at " + row[1], x.entry(0, 0),
                    9 + HOLDER + (row[2] == 1 ? NEW : NEW - age * TICK));
        }
    }

    private static void tokenOfAnotherEpochThatIsTheSame() {
        Due.shows("Promise 19", "if its token is that of r for s in the epoch now",
                "165 gives 130 the same one in the epochs 2 and 21");
        int[][] due = {{159, 0}, {160, 1}, {168, 1}, {175, 1}, {176, 0}};
        for (int[] row : due) {
            Net x = pair(165, 130);
            Steps.ticks(x, 8);
            announceUpToStore(x, 130, 9);
            Due.is("its token", x.datagram(0, 5), 22795);
            Steps.ticks(x, row[0] - 8);
            x.deliver(0);
            Due.is("delivered at " + row[0], x.entry(165, 0),
                    row[1] == 1 ? 9 + HOLDER * 130 + NEW : -1);
        }
    }

    private static void leastAndGreatestToken() {
        Due.shows("Promise 19", "The TOKEN of a peer p for a peer q .. & 65535",
                "0 and 65535 are tokens like others");
        Net x = pair(5, 182);
        announceUpToStore(x, 182, 9);
        Due.is("the token of 5 for 182", x.datagram(0, 5), 0);
        x.deliver(0);
        Due.is("it is taken", x.entry(5, 0), 9 + HOLDER * 182 + NEW);
        Net y = pair(249, 29);
        announceUpToStore(y, 29, 9);
        Due.is("the token of 249 for 29", y.datagram(0, 5), 65535);
        y.deliver(0);
        Due.is("it is taken", y.entry(249, 0), 9 + HOLDER * 29 + NEW);
    }

    /** 0 has entries of 1 with the keys 10, 11, .. in that order. */
    private static Net withEntries(int count) {
        Net x = pair(0, 1);
        for (int i = 0; i < count; i++) {
            Steps.announce(x, 1, 10 + i);
        }
        return x;
    }

    private static void sixEntriesAtMost() {
        Due.shows("Promise 19", "if r has none such and has fewer than 6 entries, one is added at"
                + " the end");
        for (int n = 4; n <= 7; n++) {
            Net x = withEntries(n);
            int held = Math.min(n, 6);
            for (int j = 0; j < held; j++) {
                Due.is("entry " + j + " of " + n, x.entry(0, j), 10 + j + HOLDER + NEW);
            }
            Due.is("no more of " + n, x.entry(0, held), -1);
        }
    }

    private static void sixEntriesAreLengthened() {
        Due.shows("Promise 19", "r has an entry with that target as its key and with s as its"
                + " holder", "with 6 too");
        for (int j = 0; j <= 5; j++) {
            Net x = withEntries(6);
            Steps.ticks(x, 4);
            Steps.announce(x, 1, 10 + j);
            for (int i = 0; i <= 5; i++) {
                Due.is("entry " + i, x.entry(0, i),
                        10 + i + HOLDER + (i == j ? NEW : NEW - 4 * TICK));
            }
        }
    }

    private static void sixEntriesOfSixHolders() {
        Due.shows("Promise 19", "fewer than 6 entries", "whoever their holders are");
        Net x = new Net();
        x.join(0, -1);
        for (int p = 1; p <= 7; p++) {
            Steps.joinAndFind(x, p, 0);
            Steps.announceTo(x, 0, p, 0);
        }
        for (int j = 0; j <= 5; j++) {
            Due.is("entry " + j, x.entry(0, j), HOLDER * (j + 1) + NEW);
        }
        Due.is("of 7 there is none", x.entry(0, 6), -1);
    }

    private static void sixAgainWhenOneIsGone() {
        Due.shows("Promise 19", "has fewer than 6 entries", "one that is gone makes room");
        Net x = withEntries(1);
        x.tick();
        for (int i = 1; i <= 5; i++) {
            Steps.announce(x, 1, 10 + i);
        }
        Steps.ticks(x, 22);
        Steps.announce(x, 1, 16);
        Due.is("six: the first", x.entry(0, 0), 10 + HOLDER + TICK);
        Due.is("six: the last", x.entry(0, 5), 15 + HOLDER + 2 * TICK);
        x.tick();
        Due.is("five: the first", x.entry(0, 0), 11 + HOLDER + TICK);
        Due.is("five: no sixth", x.entry(0, 5), -1);
        Steps.announce(x, 1, 16);
        Due.is("six again: the last", x.entry(0, 5), 16 + HOLDER + NEW);
        x.tick();
        Due.is("one is left", x.entry(0, 0), 16 + HOLDER + 23 * TICK);
        Due.is("no second", x.entry(0, 1), -1);
    }

    private static void keyAndHolderTogether() {
        Due.shows("Promise 19", "with that target as its key and with s as its holder");
        Net x = new Net();
        x.join(0, -1);
        Steps.joinAndFind(x, 1, 0);
        Steps.joinAndFind(x, 2, 0);
        Steps.announceTo(x, 0, 1, 9);
        x.tick();
        Steps.announceTo(x, 0, 2, 9);
        x.tick();
        Steps.announceTo(x, 0, 1, 8);
        Due.is("the first", x.entry(0, 0), 9 + HOLDER + 22 * TICK);
        Due.is("the same key, another holder", x.entry(0, 1), 9 + HOLDER * 2 + 23 * TICK);
        Due.is("another key, the same holder", x.entry(0, 2), 8 + HOLDER + NEW);
        Steps.announceTo(x, 0, 2, 9);
        Due.is("both the same: the first stays", x.entry(0, 0), 9 + HOLDER + 22 * TICK);
        Due.is("both the same: the second is lengthened", x.entry(0, 1), 9 + HOLDER * 2 + NEW);
        Due.is("both the same: no fourth", x.entry(0, 3), -1);
    }

    private static void refusedStoreIsStillSeen() {
        Due.shows("Promise 10", "the receiver r first sees the sender s",
                "though its STORE is too old");
        Net x = pair(0, 1);
        announceUpToStore(x, 1, 9);
        Steps.ticks(x, 16);
        Due.is("before: bucket(0, 0)", x.bucket(0, 0), 256 + 1024 * 16);
        x.deliver(0);
        Due.is("after: bucket(0, 0)", x.bucket(0, 0), 256);
        Due.is("after: entry(0, 0)", x.entry(0, 0), -1);
        Due.is("after: waiting()", x.waiting(), 0);
    }

    private static void storeToOneNotUp() {
        Due.shows("Promise 10", "If its receiver is not up, that is all", "a STORE too");
        Net x = pair(0, 1);
        announceUpToStore(x, 1, 9);
        x.leave(0);
        Due.is("deliver(0)", x.deliver(0), 0);
        x.join(0, -1);
        Due.is("entry(0, 0)", x.entry(0, 0), -1);
        Due.is("contact(0, 0, 0)", x.contact(0, 0, 0), -1);
    }

    private static void storeToOneUpAgain() {
        Due.shows("Promise 3", "one to it reaches it if it is up again then", "a STORE too");
        Net x = pair(0, 1);
        announceUpToStore(x, 1, 9);
        x.leave(0);
        x.join(0, -1);
        Due.is("deliver(0)", x.deliver(0), 1);
        Due.is("entry(0, 0)", x.entry(0, 0), 9 + HOLDER + NEW);
    }

    private static void storeFromOneNotUp() {
        Due.shows("Promise 3", "datagrams from and to it stay in the line", "a STORE too");
        Net x = pair(0, 1);
        announceUpToStore(x, 1, 9);
        x.leave(1);
        Due.is("deliver(0)", x.deliver(0), 1);
        Due.is("entry(0, 0)", x.entry(0, 0), 9 + HOLDER + NEW);
        Steps.ticks(x, 23);
        Due.is("it lasts without its holder", x.entry(0, 0), 9 + HOLDER + TICK);
    }

    private static void leftAndJoinedHasNone() {
        Due.shows("Promise 19", "A peer that is not up has .. no entries");
        Net x = withEntries(6);
        x.leave(0);
        Due.is("left", x.entry(0, 0), -1);
        x.join(0, -1);
        Due.is("joined again", x.entry(0, 0), -1);
        Steps.announce(x, 1, 20);
        Due.is("a new one", x.entry(0, 0), 20 + HOLDER + NEW);
        Due.is("that alone", x.entry(0, 1), -1);
    }

    private static void orderIsKept() {
        Due.shows("Promise 19", "Entry j (from 0, in their order)");
        Net x = pair(0, 1);
        int[] keys = {20, 22, 21};
        for (int key : keys) {
            Steps.announce(x, 1, key);
            x.tick();
        }
        Steps.announce(x, 1, 22);
        Due.is("the first", x.entry(0, 0), 20 + HOLDER + 21 * TICK);
        Due.is("the second, lengthened, stays", x.entry(0, 1), 22 + HOLDER + NEW);
        Due.is("the third", x.entry(0, 2), 21 + HOLDER + 23 * TICK);
        Steps.ticks(x, 21);
        Due.is("the first is gone", x.entry(0, 0), 22 + HOLDER + 3 * TICK);
        Due.is("the last moved up", x.entry(0, 1), 21 + HOLDER + 2 * TICK);
        Due.is("two are left", x.entry(0, 2), -1);
        Steps.ticks(x, 2);
        Due.is("the last is gone", x.entry(0, 0), 22 + HOLDER + TICK);
        Due.is("one is left", x.entry(0, 1), -1);
    }

    private static void entryHasAPlace() {
        Due.shows("Promise 19", "-1 when p is not up or there is no such entry");
        Net x = withEntries(6);
        Due.is("entry(0, -1)", x.entry(0, -1), -1);
        Due.is("entry(0, 0)", x.entry(0, 0), 10 + HOLDER + NEW);
        Due.is("entry(0, 5)", x.entry(0, 5), 15 + HOLDER + NEW);
        Due.is("entry(0, 6)", x.entry(0, 6), -1);
        Due.is("entry(1, 0), the holder has none", x.entry(1, 0), -1);
        Due.is("entry(-1, 0)", x.entry(-1, 0), -1);
        Due.is("entry(2, 0)", x.entry(2, 0), -1);
        Due.is("entry(256, 0)", x.entry(256, 0), -1);
    }
}
