/** Steps that many tests take on their way to what they look at. */
final class Steps {
    private Steps() {
    }

    /** The host sees the guest, which joins (anew) for it; no datagram of it is left. */
    static void see(Net x, int host, int guest) {
        x.leave(guest);
        x.join(guest, host);
        x.deliver(x.waiting() - 1);
        x.drop(x.waiting() - 1);
    }

    /** A new object in which the host has seen the guests, one after another. */
    static Net host(int number, int... guests) {
        Net x = new Net();
        x.join(number, -1);
        for (int guest : guests) {
            see(x, number, guest);
        }
        return x;
    }

    static void deliverAll(Net x) {
        for (int i = 0; i < 200 && x.deliver(0) != -1; i++) {
            // Each step delivers one, until none waits.
        }
    }

    static void dropAll(Net x) {
        for (int i = x.waiting(); i > 0; i--) {
            x.drop(0);
        }
    }

    /** The guest joins (anew) for the host until so many datagrams wait. */
    static void crowd(Net x, int host, int guest, int count) {
        for (int i = x.waiting(); i < count; i++) {
            x.leave(guest);
            x.join(guest, host);
        }
    }

    /** p announces itself under the key, and every datagram is delivered. */
    static void announce(Net x, int p, int key) {
        x.begin(p, 2, key);
        deliverAll(x);
    }

    /** p announces itself under the key; of its STOREs only the one to the host arrives. */
    static void announceTo(Net x, int host, int p, int key) {
        x.begin(p, 2, key);
        for (int i = 0; i < 200 && x.waiting() > 0; i++) {
            if (x.datagram(0, 0) == 3 && x.datagram(0, 2) != host) {
                x.drop(0);
            } else {
                x.deliver(0);
            }
        }
    }

    /** p joins for via, and every datagram is delivered. */
    static void joinAndFind(Net x, int p, int via) {
        x.join(p, via);
        deliverAll(x);
    }

    static void ticks(Net x, int count) {
        for (int i = 0; i < count; i++) {
            x.tick();
        }
    }

    /** So many ticks, and whatever is sent at one of them is lost. */
    static void silentTicks(Net x, int count) {
        dropAll(x);
        for (int i = 0; i < count; i++) {
            x.tick();
            dropAll(x);
        }
    }

    static void isDatagram(String name, Net x, int k, int... cells) {
        for (int what = 0; what < 12; what++) {
            int want = what < cells.length ? cells[what] : -1;
            Due.is(name + ": datagram(" + k + ", " + what + ")", x.datagram(k, what), want);
        }
    }

    static void areCandidates(String name, Net x, int p, int... want) {
        for (int j = 0; j < want.length; j++) {
            Due.is(name + ": candidate(" + p + ", " + j + ")", x.candidate(p, j), want[j]);
        }
        Due.is(name + ": one candidate more", x.candidate(p, want.length), -1);
    }

    static void areContacts(String name, Net x, int p, int b, int... want) {
        for (int j = 0; j < want.length; j++) {
            Due.is(name + ": contact(" + p + ", " + b + ", " + j + ")",
                    x.contact(p, b, j), want[j]);
        }
        Due.is(name + ": one contact more", x.contact(p, b, want.length), -1);
    }

    static void areFound(String name, Net x, int p, int... want) {
        for (int j = 0; j < want.length; j++) {
            Due.is(name + ": found(" + p + ", " + j + ")", x.found(p, j), want[j]);
        }
        Due.is(name + ": one found more", x.found(p, want.length), -1);
    }
}
