import java.util.ArrayList;
import java.util.List;

/**
 * A run of calls after which others are refused. What is refused changes nothing: an object that
 * got the refused call and one that did not are looked at, and are looked at again after both
 * went on, and no look may tell them apart.
 */
final class Scene {
    interface Run {
        void on(Net x);
    }

    interface Call {
        int on(Net x);
    }

    private record Look(String name, Call call) {
    }

    /** So many looks at the most on one object: its run and they have to stay in 512 calls. */
    private static final int LOOKS_AT_ONCE = 128;
    private static final int KEY = 100;
    private static final int[] TARGETS = {0, KEY, 255};

    private final Run run;
    private final List<Integer> peers;
    /** Each kind of call in a list of its own. */
    private final List<List<Look>> looks;
    private final List<Integer> seenAtOnce;
    private final List<Integer> seenLater;

    Scene(Run run) {
        this.run = run;
        peers = peersUp();
        looks = allLooks();
        seenAtOnce = seen(run);
        seenLater = seen(x -> {
            run.on(x);
            goOn(x);
        });
    }

    Net made() {
        Net x = new Net();
        run.on(x);
        return x;
    }

    void refuses(String name, int answer, Call call) {
        Due.is(name, call.on(made()), answer);
        isAlike(name + ", then", seenAtOnce, seen(x -> {
            run.on(x);
            call.on(x);
        }));
        isAlike(name + ", later", seenLater, seen(x -> {
            run.on(x);
            call.on(x);
            goOn(x);
        }));
    }

    private void isAlike(String name, List<Integer> without, List<Integer> with) {
        int i = 0;
        for (List<Look> kind : looks) {
            for (Look look : kind) {
                if (!without.get(i).equals(with.get(i))) {
                    Due.tell(name + " " + look.name + " answered " + with.get(i)
                            + ", without that call " + without.get(i));
                    return;
                }
                i++;
            }
        }
    }

    /** Each kind of look has objects of its own: one that changes something must not hide it. */
    private List<Integer> seen(Run way) {
        List<Integer> answers = new ArrayList<>();
        for (List<Look> kind : looks) {
            Net x = null;
            for (int i = 0; i < kind.size(); i++) {
                if (i % LOOKS_AT_ONCE == 0) {
                    x = new Net();
                    way.on(x);
                }
                answers.add(kind.get(i).call.on(x));
            }
        }
        return answers;
    }

    /** Shows what no look shows: serials, times and tokens kept, and how many may still join. */
    private void goOn(Net x) {
        askAll(x);
        Steps.ticks(x, 5);
        askAll(x);
        Steps.dropAll(x);
        for (int p = 231; p <= 243; p++) {
            x.join(p, p == 231 ? -1 : 231);
        }
        for (int i = 1; i < peers.size(); i++) {
            x.leave(peers.get(i));
            x.join(peers.get(i), peers.get(0));
        }
    }

    private void askAll(Net x) {
        for (int p : peers) {
            x.refresh(p);
            x.begin(p, 2, KEY);
        }
        for (int i = 0; i < 16; i++) {
            x.deliver(i % 3);
        }
    }

    private List<Integer> peersUp() {
        List<Integer> up = new ArrayList<>();
        Net x = null;
        for (int p = 0; p <= 255; p++) {
            if (p % LOOKS_AT_ONCE == 0) {
                x = made();
            }
            if (x.lookup(p) >= 0) {
                up.add(p);
            }
        }
        return up;
    }

    private List<List<Look>> allLooks() {
        List<Look> lookups = new ArrayList<>();
        List<Look> candidates = new ArrayList<>();
        List<Look> found = new ArrayList<>();
        List<Look> entries = new ArrayList<>();
        List<Look> datagrams = new ArrayList<>();
        for (int p = -1; p <= 256; p++) {
            int of = p;
            lookups.add(new Look("lookup(" + p + ")", x -> x.lookup(of)));
        }
        for (int p : peers) {
            for (int i = 0; i <= 12; i++) {
                int j = i;
                candidates.add(new Look("candidate(" + p + ", " + j + ")", x -> x.candidate(p, j)));
                found.add(new Look("found(" + p + ", " + j + ")", x -> x.found(p, j)));
                entries.add(new Look("entry(" + p + ", " + j + ")", x -> x.entry(p, j)));
            }
        }
        for (int i = 0; i < 25 * 12; i++) {
            int k = i / 12;
            int what = i % 12;
            datagrams.add(new Look("datagram(" + k + ", " + what + ")", x -> x.datagram(k, what)));
        }
        List<List<Look>> all = looksAtTables();
        all.add(List.of(new Look("clock()", Net::clock)));
        all.add(List.of(new Look("waiting()", Net::waiting)));
        all.addAll(List.of(lookups, candidates, found, entries, datagrams));
        return all;
    }

    private List<List<Look>> looksAtTables() {
        List<Look> counts = new ArrayList<>();
        List<Look> buckets = new ArrayList<>();
        List<Look> contacts = new ArrayList<>();
        List<Look> closest = new ArrayList<>();
        for (int p : peers) {
            counts.add(new Look("buckets(" + p + ")", x -> x.buckets(p)));
            for (int i = 0; i < 8 * 3; i++) {
                int b = i / 3;
                int j = i % 3;
                contacts.add(new Look("contact(" + p + ", " + b + ", " + j + ")",
                        x -> x.contact(p, b, j)));
            }
            for (int i = 0; i < 8; i++) {
                int b = i;
                buckets.add(new Look("bucket(" + p + ", " + b + ")", x -> x.bucket(p, b)));
            }
            for (int target : TARGETS) {
                closest.add(new Look("closest(" + p + ", " + target + ", 2)",
                        x -> x.closest(p, target, 2)));
            }
        }
        return new ArrayList<>(List.of(counts, buckets, contacts, closest));
    }
}
