import java.lang.reflect.Field;
import java.lang.reflect.Modifier;
import java.util.Collections;
import java.util.IdentityHashMap;
import java.util.Set;

/**
 * Reaches into an object without knowing how it holds its state: it goes through whatever fields
 * and arrays there are.
 */
final class Inside {
    private final Set<Object> seen = Collections.newSetFromMap(new IdentityHashMap<>());
    private final int from;
    private final int to;

    private Inside(int from, int to) {
        this.from = from;
        this.to = to;
    }

    /** Every int inside that is the one becomes the other. */
    static void replace(XorOverlay x, int from, int to) throws IllegalAccessException {
        new Inside(from, to).goThrough(x);
    }

    private void goThrough(Object part) throws IllegalAccessException {
        if (part == null || !seen.add(part)) {
            return;
        }
        if (part instanceof int[] row) {
            for (int i = 0; i < row.length; i++) {
                row[i] = row[i] == from ? to : row[i];
            }
        } else if (part instanceof Object[] parts) {
            for (Object each : parts) {
                goThrough(each);
            }
        } else if (isOwn(part.getClass())) {
            goThroughFields(part);
        }
    }

    private void goThroughFields(Object owner) throws IllegalAccessException {
        for (Field field : owner.getClass().getDeclaredFields()) {
            if (Modifier.isStatic(field.getModifiers())) {
                continue;
            }
            field.setAccessible(true);
            if (!field.getType().isPrimitive()) {
                goThrough(field.get(owner));
            } else if (field.getType() == int.class && field.getInt(owner) == from) {
                field.setInt(owner, to);
            }
        }
    }

    private static boolean isOwn(Class<?> type) {
        return type.getName().startsWith("XorOverlay");
    }
}
