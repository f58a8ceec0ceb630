import java.util.ArrayList;
import java.util.List;

/**
 * A run of calls after which others are refused. What is refused changes nothing: an object that
 * got the refused call and one that did not are looked at, and are looked at again after both
 * went on, and no look may tell them apart.
 */
final class Scene {
    interface Run {
        void on(Net x);
    }

    interface Call {
        int on(Net x);
    }

    private record Look(String name, Call call) {
    }

    /** So many looks at the most on one object: its run and they have to stay in 512 calls. */
    private static final int LOOKS_AT_ONCE = 128;
    private static final int KEY = 100;
    private static final int[] TARGETS = {0, KEY, 255};

    private final Run run;
    private final List<Integer> peers;
    private final List<Look> looks;
    private final List<Integer> seenAtOnce;
    private final List<Integer> seenLater;

    Scene(Run run) {
        this.run = run;
        peers = peersUp();
        looks = allLooks();
        seenAtOnce = seen(run);
        seenLater = seen(x -> {
            run.on(x);
            goOn(x);
        });
    }

    void refuses(String name, int answer, Call call) {
        Net net = new Net();
        run.on(net);
        Due.is(name, call.on(net), answer);
        isAlike(name + ", then", seenAtOnce, seen(x -> {
            run.on(x);
            call.on(x);
        }));
        isAlike(name + ", later", seenLater, seen(x -> {
            run.on(x);
            call.on(x);
            goOn(x);
        }));
    }

    private void isAlike(String name, List<Integer> without, List<Integer> with) {
        for (int i = 0; i < looks.size(); i++) {
            if (!without.get(i).equals(with.get(i))) {
                Due.tell(name + " " + looks.get(i).name + " answered " + with.get(i)
                        + ", without that call " + without.get(i));
                return;
            }
        }
    }

    private List<Integer> seen(Run way) {
        List<Integer> answers = new ArrayList<>();
        Net x = null;
        for (Look look : looks) {
            if (answers.size() % LOOKS_AT_ONCE == 0) {
                x = new Net();
                way.on(x);
            }
            answers.add(look.call.on(x));
        }
        return answers;
    }

    /** Shows what no look shows: serials, times and tokens kept, and how many may still join. */
    private void goOn(Net x) {
        for (int p : peers) {
            x.refresh(p);
            x.begin(p, 2, KEY);
        }
        for (int i = 0; i < 16; i++) {
            x.deliver(i % 3);
        }
        Steps.ticks(x, 5);
        for (int p = 231; p <= 243; p++) {
            x.join(p, -1);
        }
    }

    private List<Integer> peersUp() {
        List<Integer> up = new ArrayList<>();
        Net x = null;
        for (int p = 0; p <= 255; p++) {
            if (p % LOOKS_AT_ONCE == 0) {
                x = new Net();
                run.on(x);
            }
            if (x.lookup(p) >= 0) {
                up.add(p);
            }
        }
        return up;
    }

    private List<Look> allLooks() {
        List<Look> all = new ArrayList<>();
        all.add(new Look("clock()", Net::clock));
        all.add(new Look("waiting()", Net::waiting));
        for (int i = -1; i <= 256; i++) {
            int p = i;
            all.add(new Look("lookup(" + p + ")", x -> x.lookup(p)));
        }
        for (int p : peers) {
            addLooksAtLookup(all, p);
            addLooksAtTable(all, p);
        }
        for (int i = 0; i < 25 * 12; i++) {
            int k = i / 12;
            int what = i % 12;
            all.add(new Look("datagram(" + k + ", " + what + ")", x -> x.datagram(k, what)));
        }
        return all;
    }

    private static void addLooksAtLookup(List<Look> all, int p) {
        for (int i = 0; i <= 12; i++) {
            int j = i;
            all.add(new Look("candidate(" + p + ", " + j + ")", x -> x.candidate(p, j)));
            all.add(new Look("found(" + p + ", " + j + ")", x -> x.found(p, j)));
        }
        for (int i = 0; i <= 6; i++) {
            int j = i;
            all.add(new Look("entry(" + p + ", " + j + ")", x -> x.entry(p, j)));
        }
    }

    private static void addLooksAtTable(List<Look> all, int p) {
        all.add(new Look("buckets(" + p + ")", x -> x.buckets(p)));
        for (int i = 0; i < 8; i++) {
            int b = i;
            all.add(new Look("bucket(" + p + ", " + b + ")", x -> x.bucket(p, b)));
            for (int c = 0; c < 3; c++) {
                int j = c;
                all.add(new Look("contact(" + p + ", " + b + ", " + j + ")",
                        x -> x.contact(p, b, j)));
            }
        }
        for (int target : TARGETS) {
            all.add(new Look("closest(" + p + ", " + target + ", 2)",
                    x -> x.closest(p, target, 2)));
        }
    }
}
