import java.util.Random;

/**
 * No call throws or fails to end, whatever it is given and however many came before it (rule 7
 * of LANGUAGE.md). What is answered here is not looked at: behind the 512th call it is free.
 */
public final class LongRunTest {
    private static final int CALLS = 200_000;
    private static final int[] EDGES = {
        Integer.MIN_VALUE, -257, -256, -255, -2, -1, 0, 1, 2, 3, 4, 11, 12, 13, 23, 24, 25, 127,
        128, 254, 255, 256, 257, Integer.MAX_VALUE,
    };

    private final Random random;
    private final XorOverlay x = new XorOverlay();

    private LongRunTest(long seed) {
        random = new Random(seed);
    }

    public static void main(String[] args) {
        for (int seed = 0; seed < 5; seed++) {
            LongRunTest test = new LongRunTest(seed);
            for (int i = 0; i < CALLS; i++) {
                test.call();
            }
        }
    }

    private int any() {
        return switch (random.nextInt(4)) {
            case 0 -> EDGES[random.nextInt(EDGES.length)];
            case 1 -> random.nextInt();
            default -> random.nextInt(16);
        };
    }

    private void call() {
        switch (random.nextInt(18)) {
            case 0 -> x.join(any(), random.nextBoolean() ? -1 : any());
            case 1 -> leaveSometimes();
            case 2 -> x.begin(any(), any(), any());
            case 3 -> x.refresh(any());
            case 4 -> x.tick();
            case 5 -> x.clock();
            case 6 -> x.waiting();
            case 7 -> x.datagram(any(), any());
            case 8 -> x.deliver(any());
            case 9 -> x.drop(any());
            case 10 -> x.lookup(any());
            case 11 -> x.candidate(any(), any());
            case 12 -> x.found(any(), any());
            case 13 -> x.buckets(any());
            case 14 -> x.bucket(any(), any());
            case 15 -> x.contact(any(), any(), any());
            case 16 -> x.closest(any(), any(), any());
            default -> x.entry(any(), any());
        }
    }

    private void leaveSometimes() {
        // Else hardly a peer would stay up long enough to fill its table.
        if (random.nextInt(10) == 0) {
            x.leave(any());
        }
    }
}
