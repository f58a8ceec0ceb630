/** Steps that many tests take on their way to what they look at. */
final class Steps {
    private Steps() {
    }

    /** The host sees the guest, which joins (anew) for it; no datagram of it is left. */
    static void see(XorOverlay x, int host, int guest) {
        x.leave(guest);
        x.join(guest, host);
        x.deliver(x.waiting() - 1);
        x.drop(x.waiting() - 1);
    }

    static void deliverAll(XorOverlay x) {
        for (int i = 0; i < 200 && x.waiting() > 0; i++) {
            x.deliver(0);
        }
    }

    static void dropAll(XorOverlay x) {
        for (int i = 0; i < 24; i++) {
            x.drop(0);
        }
    }

    static void ticks(XorOverlay x, int count) {
        for (int i = 0; i < count; i++) {
            x.tick();
        }
    }

    /** So many ticks, and whatever is sent at one of them is lost. */
    static void silentTicks(XorOverlay x, int count) {
        dropAll(x);
        for (int i = 0; i < count; i++) {
            x.tick();
            dropAll(x);
        }
    }

    static void isDatagram(String name, XorOverlay x, int k, int... cells) {
        for (int what = 0; what < 12; what++) {
            int want = what < cells.length ? cells[what] : -1;
            Due.is(name + ": datagram(" + k + ", " + what + ")", x.datagram(k, what), want);
        }
    }

    static void areCandidates(String name, XorOverlay x, int p, int... want) {
        for (int j = 0; j < want.length; j++) {
            Due.is(name + ": candidate(" + p + ", " + j + ")", x.candidate(p, j), want[j]);
        }
        Due.is(name + ": one candidate more", x.candidate(p, want.length), -1);
    }

    static void areContacts(String name, XorOverlay x, int p, int b, int... want) {
        for (int j = 0; j < want.length; j++) {
            Due.is(name + ": contact(" + p + ", " + b + ", " + j + ")",
                    x.contact(p, b, j), want[j]);
        }
        Due.is(name + ": one contact more", x.contact(p, b, want.length), -1);
    }

    static void areFound(String name, XorOverlay x, int p, int... want) {
        for (int j = 0; j < want.length; j++) {
            Due.is(name + ": found(" + p + ", " + j + ")", x.found(p, j), want[j]);
        }
        Due.is(name + ": one found more", x.found(p, want.length), -1);
    }
}
