import java.lang.reflect.Constructor;
import java.lang.reflect.Field;
import java.lang.reflect.Member;
import java.lang.reflect.Method;
import java.lang.reflect.Modifier;
import java.util.ArrayList;
import java.util.List;

/** The class shows the document's constructor and methods, and nothing else. */
public final class PublicFaceTest {
    public static void main(String[] args) {
        Check.sentence("public final class VoiceAlloc", PublicFaceTest::publicAndFinal);
        Check.sentence("new VoiceAlloc() takes no arguments", PublicFaceTest::oneConstructor);
        Check.sentence("noteOn, noteOff, active, noteAt; no method reads the clock", PublicFaceTest::fourMethods);
        Check.sentence("the class declares no public constants", PublicFaceTest::noFieldsShown);
        Check.end();
    }

    private static void publicAndFinal() {
        same(Modifier.toString(VoiceAlloc.class.getModifiers()), "public final");
        same(String.valueOf(VoiceAlloc.class.getSuperclass()), "class java.lang.Object");
        same("with " + VoiceAlloc.class.getInterfaces().length + " interfaces", "with 0 interfaces");
        same("with " + VoiceAlloc.class.getDeclaredClasses().length + " nested classes", "with 0 nested classes");
    }

    private static void oneConstructor() {
        Constructor<?>[] all = VoiceAlloc.class.getDeclaredConstructors();
        same(shown(all).toString(), "[public VoiceAlloc()]");
    }

    private static void fourMethods() {
        Method[] all = VoiceAlloc.class.getDeclaredMethods();
        same(shown(all).toString(), List.of(
            "public int VoiceAlloc.active()",
            "public int VoiceAlloc.noteAt(int)",
            "public int VoiceAlloc.noteOff(int)",
            "public int VoiceAlloc.noteOn(int)").toString());
    }

    private static void noFieldsShown() {
        Field[] all = VoiceAlloc.class.getDeclaredFields();
        same(shown(all).toString(), "[]");
    }

    private static List<String> shown(Member[] members) {
        List<String> found = new ArrayList<>();
        for (Member m : members) {
            if (!Modifier.isPrivate(m.getModifiers())) {
                found.add(m.toString());
            }
        }
        found.sort(null);
        return found;
    }

    private static void same(String got, String want) {
        if (!got.equals(want)) {
            Check.fail("is " + got + ", due is " + want);
        }
    }
}
