import java.lang.reflect.Field;

/**
 * Promise 19, for the one bound that no run of calls can reach: no peer ever gives a token of
 * epoch 0, so a STORE that waits is given one here behind the object's back.
 */
public final class EpochNoughtTest {
    private static final int TOKEN = 5;
    private static final int OF_EPOCH_BELOW = 20185;
    private static final int OF_EPOCH_0 = 9912;
    private static final int OF_EPOCH_1 = 40200;
    private static final int ADDED = 9 + 256 * 1 + 65536 * 24;

    private EpochNoughtTest() {
    }

    public static void main(String[] args) throws ReflectiveOperationException {
        Due.shows("Promise 19", "or in the epoch now less 1 (0 too is taken for e there)");
        Due.is("epoch 1, token of 1", entryAfter(7, OF_EPOCH_1), ADDED);
        Due.is("epoch 1, token of 0", entryAfter(0, OF_EPOCH_0), ADDED);
        Due.is("epoch 1 still, token of 0", entryAfter(7, OF_EPOCH_0), ADDED);
        Due.is("epoch 1, token of the one below 0", entryAfter(0, OF_EPOCH_BELOW), -1);
        Due.is("epoch 2, token of 0", entryAfter(8, OF_EPOCH_0), -1);
        Due.end();
    }

    /** What 0 holds when the STORE of 1 arrives after so many ticks with this token. */
    private static int entryAfter(int ticks, int token) throws ReflectiveOperationException {
        XorOverlay x = new XorOverlay();
        x.join(0, -1);
        x.join(1, 0);
        x.deliver(0);
        x.deliver(0);
        x.begin(1, 2, 9);
        x.deliver(0);
        x.deliver(0);
        Due.is("a STORE waits: datagram(0, 0)", x.datagram(0, 0), 3);
        firstRow(x)[TOKEN] = token;
        Due.is("its token: datagram(0, 5)", x.datagram(0, 5), token);
        for (int i = 0; i < ticks; i++) {
            x.tick();
        }
        x.deliver(0);
        return x.entry(0, 0);
    }

    private static int[] firstRow(XorOverlay x) throws ReflectiveOperationException {
        Object line = inside(x, "line");
        return (int[]) inside(line, "cells");
    }

    private static Object inside(Object owner, String name) throws ReflectiveOperationException {
        Field field = owner.getClass().getDeclaredField(name);
        field.setAccessible(true);
        return field.get(owner);
    }
}
