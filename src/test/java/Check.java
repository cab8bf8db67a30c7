import java.util.ArrayList;
import java.util.Arrays;
import java.util.List;

/**
 * Runs the tests of single sentences of the document and counts the answers that are not the due
 * ones; a test's main method ends with {@link #end}.
 */
final class Check {
    /** Lower than any note and any voice number. */
    static final int[] TOO_SMALL = {-1, -2, -3, -4, -127, -128, -129, -256, -65536, Integer.MIN_VALUE};
    static final int[] NOTE_TOO_LARGE = {128, 129, 255, 256, 384, 32768, 65536, 1 << 30, Integer.MAX_VALUE};
    static final int[] VOICE_TOO_LARGE = {4, 5, 7, 8, 127, 128, 256, 65536, 1 << 30, Integer.MAX_VALUE};
    static final int[] NOT_NOTES = joined(TOO_SMALL, NOTE_TOO_LARGE);
    static final int[] NOT_VOICES = joined(TOO_SMALL, VOICE_TOO_LARGE);

    private static final int PRINTED_EACH = 5;

    private static String sentence = "";
    private static int wrong = 0;
    private static int wrongOfSentence = 0;

    private Check() {
    }

    static void sentence(String text, Runnable test) {
        sentence = text;
        wrongOfSentence = 0;
        test.run();
        if (wrongOfSentence > PRINTED_EACH) {
            System.out.println("[" + text + "] and " + (wrongOfSentence - PRINTED_EACH) + " answers more");
        }
    }

    static void due(String what, long got, long want) {
        if (got != want) {
            fail(what + " answered " + got + ", due is " + want);
        }
    }

    static void fail(String what) {
        wrong++;
        wrongOfSentence++;
        if (wrongOfSentence <= PRINTED_EACH) {
            System.out.println("[" + sentence + "] " + what);
        }
    }

    static void on(VoiceAlloc x, int n, int want) {
        due("noteOn(" + n + ")", x.noteOn(n), want);
    }

    static void off(VoiceAlloc x, int n, int want) {
        due("noteOff(" + n + ")", x.noteOff(n), want);
    }

    static void active(VoiceAlloc x, int want) {
        due("active()", x.active(), want);
    }

    static void at(VoiceAlloc x, int v, int want) {
        due("noteAt(" + v + ")", x.noteAt(v), want);
    }

    /** What can be seen of the voices: the four notes, -1 for a free one, and the count that follows. */
    static void voices(String when, VoiceAlloc x, int... notes) {
        int sounding = 0;
        for (int v = 0; v < 4; v++) {
            due(when + ": noteAt(" + v + ")", x.noteAt(v), notes[v]);
            sounding += notes[v] == -1 ? 0 : 1;
        }
        due(when + ": active()", x.active(), sounding);
    }

    /** An object on which the notes were started in turn. */
    static VoiceAlloc started(int... notes) {
        VoiceAlloc x = new VoiceAlloc();
        for (int n : notes) {
            x.noteOn(n);
        }
        return x;
    }

    /**
     * The numbers outside low..high near 0 and near every power of two and its negative: where a
     * look at fewer bits than all 32 would take a wrong number for a good one.
     */
    static List<Integer> widelyOutside(int low, int high) {
        List<Integer> found = new ArrayList<>();
        for (int power = 0; power < 32; power++) {
            for (int d = -130; d <= 130; d++) {
                addOutside(found, (1 << power) + d, low, high);
                addOutside(found, -(1 << power) + d, low, high);
            }
        }
        return found;
    }

    private static void addOutside(List<Integer> found, int number, int low, int high) {
        if (number < low || number > high) {
            found.add(number);
        }
    }

    private static int[] joined(int[] a, int[] b) {
        int[] both = Arrays.copyOf(a, a.length + b.length);
        System.arraycopy(b, 0, both, a.length, b.length);
        return both;
    }

    static void end() {
        if (wrong != 0) {
            System.out.println(wrong + " answers are not as due");
            System.exit(1);
        }
    }
}
