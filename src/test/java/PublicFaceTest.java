import java.lang.reflect.Constructor;
import java.lang.reflect.Field;
import java.lang.reflect.Method;
import java.lang.reflect.Modifier;
import java.util.Set;
import java.util.TreeSet;

/** The class shows the document's constructor and methods, and nothing else. */
public final class PublicFaceTest {
    public static void main(String[] args) {
        int modifiers = VoiceAlloc.class.getModifiers();
        same("modifiers", Modifier.toString(modifiers), "public final");

        Set<String> seen = new TreeSet<>();
        for (Constructor<?> c : VoiceAlloc.class.getDeclaredConstructors()) {
            seen.add(c.toString());
        }
        for (Method m : VoiceAlloc.class.getDeclaredMethods()) {
            if (!Modifier.isPrivate(m.getModifiers())) {
                seen.add(m.toString());
            }
        }
        for (Field f : VoiceAlloc.class.getDeclaredFields()) {
            if (!Modifier.isPrivate(f.getModifiers())) {
                seen.add(f.toString());
            }
        }
        same("face", seen.toString(), new TreeSet<>(Set.of(
            "public VoiceAlloc()",
            "public int VoiceAlloc.noteOn(int)",
            "public int VoiceAlloc.noteOff(int)",
            "public int VoiceAlloc.active()",
            "public int VoiceAlloc.noteAt(int)")).toString());
        Check.end();
    }

    private static void same(String what, String got, String want) {
        if (!got.equals(want)) {
            System.out.println(what + " is " + got + ", due is " + want);
            Check.due(what + " as due (1 for yes)", 0, 1);
        }
    }
}
