import java.lang.reflect.Array;
import java.lang.reflect.Field;
import java.lang.reflect.Modifier;
import java.util.ArrayList;
import java.util.List;

/**
 * Looks at the private fields, because no public method shows the clock: without it, no test could
 * fail when the clock moves where the document says that it doesn't.
 */
final class Inside {
    private Inside() {
    }

    static long clock(VoiceAlloc x) {
        try {
            return clockField().getLong(x);
        } catch (IllegalAccessException e) {
            throw new IllegalStateException(e);
        }
    }

    /** As if so many notes more had been started and released on a voice that is free. */
    static void passClock(VoiceAlloc x, long notes) {
        try {
            clockField().setLong(x, clock(x) + notes);
        } catch (IllegalAccessException e) {
            throw new IllegalStateException(e);
        }
    }

    /** Every field of the object, start times and clock included. */
    static String everything(VoiceAlloc x) {
        StringBuilder all = new StringBuilder();
        for (Field f : fields()) {
            all.append(f.getName()).append('=').append(value(f, x)).append(' ');
        }
        return all.toString();
    }

    static void same(String when, VoiceAlloc x, String before) {
        String after = everything(x);
        if (!after.equals(before)) {
            Check.fail(when + " made " + after + "of " + before);
        }
    }

    /** The clock is the one 64-bit number that is no array; its name is the class's own affair. */
    private static Field clockField() {
        List<Field> found = new ArrayList<>();
        for (Field f : fields()) {
            if (f.getType() == long.class) {
                found.add(f);
            }
        }
        if (found.size() != 1) {
            throw new IllegalStateException("the class has " + found.size() + " long fields: which is the clock?");
        }
        return found.get(0);
    }

    private static List<Field> fields() {
        List<Field> found = new ArrayList<>();
        for (Field f : VoiceAlloc.class.getDeclaredFields()) {
            if (!Modifier.isStatic(f.getModifiers())) {
                f.setAccessible(true);
                found.add(f);
            }
        }
        return found;
    }

    private static String value(Field f, VoiceAlloc x) {
        try {
            Object held = f.get(x);
            if (!f.getType().isArray()) {
                return String.valueOf(held);
            }
            StringBuilder parts = new StringBuilder();
            for (int i = 0; i < Array.getLength(held); i++) {
                parts.append(Array.get(held, i)).append(',');
            }
            return parts.toString();
        } catch (IllegalAccessException e) {
            throw new IllegalStateException(e);
        }
    }
}
