import java.util.Random;

/** Long runs of chosen calls: the class has to answer each as the model does. */
public final class ModelTest {
    private static final int RUNS = 4000;
    private static final int CALLS = Net.CALLS;
    private static final int[] ODD = {-1, 256, 3, 24, Integer.MIN_VALUE, Integer.MAX_VALUE};

    private final Random random;
    private final XorOverlay real = new XorOverlay();
    private final Model model = new Model();
    private final int[] numbers = new int[13];
    private final int deliveries;
    private final int ticks;
    private final int drops;
    private final int comings;
    private String call = "";
    private int got;
    private int want;

    private ModelTest(long seed) {
        random = new Random(seed);
        int spread = 1 << (4 + random.nextInt(5));
        int base = random.nextInt(256);
        for (int i = 0; i < numbers.length; i++) {
            numbers[i] = base ^ random.nextInt(spread);
        }
        // Runs differ in how fast time goes, how much is lost and how often peers change.
        deliveries = 2 + random.nextInt(30);
        ticks = 1 + random.nextInt(12);
        drops = random.nextInt(4);
        comings = 1 + random.nextInt(8);
    }

    public static void main(String[] args) {
        for (int seed = 0; seed < RUNS; seed++) {
            new ModelTest(seed).run(seed);
        }
        Due.end();
    }

    private void run(int seed) {
        for (int i = 0; i < CALLS; i++) {
            if (random.nextInt(5) < 3) {
                change();
            } else {
                look();
            }
            if (got != want) {
                Due.is("seed " + seed + ", call " + i + ": " + call, got, want);
                return;
            }
        }
    }

    private void change() {
        int pick = random.nextInt(8 + deliveries + ticks + drops + comings) - deliveries;
        if (pick < 0) {
            int k = place(model.waiting());
            told("deliver(" + k + ")", real.deliver(k), model.deliver(k));
        } else if (pick < 6) {
            int p = peer();
            int kind = random.nextInt(40) == 0 ? odd() : random.nextInt(3);
            int target = number();
            told("begin(" + p + ", " + kind + ", " + target + ")",
                    bit(real.begin(p, kind, target)), bit(model.begin(p, kind, target)));
        } else if (pick < 8) {
            int p = peer();
            told("refresh(" + p + ")", real.refresh(p), model.refresh(p));
        } else if (pick < 8 + ticks) {
            told("tick()", real.tick(), model.tick());
        } else if (pick < 8 + ticks + drops) {
            int k = place(model.waiting());
            told("drop(" + k + ")", bit(real.drop(k)), bit(model.drop(k)));
        } else if (random.nextInt(4) > 0) {
            int p = peer();
            int via = random.nextInt(8) == 0 ? -1 : peer();
            told("join(" + p + ", " + via + ")", bit(real.join(p, via)), bit(model.join(p, via)));
        } else {
            int p = peer();
            told("leave(" + p + ")", bit(real.leave(p)), bit(model.leave(p)));
        }
    }

    private void look() {
        int p = peer();
        int j = random.nextInt(30) == 0 ? odd() : random.nextInt(4);
        int b = random.nextInt(30) == 0 ? odd() : random.nextInt(8);
        int target = number();
        switch (random.nextInt(11)) {
            case 0 -> told("clock()", real.clock(), model.clock());
            case 1 -> told("waiting()", real.waiting(), model.waiting());
            case 2 -> lookAtDatagram();
            case 3 -> told("lookup(" + p + ")", real.lookup(p), model.lookup(p));
            case 4 -> told("candidate(" + p + ", " + b + ")",
                    real.candidate(p, b), model.candidate(p, b));
            case 5 -> told("found(" + p + ", " + j + ")", real.found(p, j), model.found(p, j));
            case 6 -> told("buckets(" + p + ")", real.buckets(p), model.buckets(p));
            case 7 -> told("bucket(" + p + ", " + b + ")", real.bucket(p, b), model.bucket(p, b));
            case 8 -> told("contact(" + p + ", " + b + ", " + j + ")",
                    real.contact(p, b, j), model.contact(p, b, j));
            case 9 -> told("closest(" + p + ", " + target + ", " + j + ")",
                    real.closest(p, target, j), model.closest(p, target, j));
            default -> told("entry(" + p + ", " + b + ")", real.entry(p, b), model.entry(p, b));
        }
    }

    private void lookAtDatagram() {
        int k = place(model.waiting());
        int what = random.nextInt(30) == 0 ? odd() : random.nextInt(12);
        told("datagram(" + k + ", " + what + ")", real.datagram(k, what), model.datagram(k, what));
    }

    private void told(String call, int got, int want) {
        this.call = call;
        this.got = got;
        this.want = want;
    }

    private int place(int size) {
        return random.nextInt(30) == 0 || size == 0 ? odd() : random.nextInt(size);
    }

    private int peer() {
        return random.nextInt(40) == 0 ? odd() : numbers[random.nextInt(numbers.length)];
    }

    private int number() {
        return switch (random.nextInt(20)) {
            case 0 -> odd();
            case 1, 2, 3, 4 -> random.nextInt(256);
            default -> numbers[random.nextInt(3)] ^ 1;
        };
    }

    private int odd() {
        return ODD[random.nextInt(ODD.length)];
    }

    private static int bit(boolean answer) {
        return answer ? 1 : 0;
    }
}
