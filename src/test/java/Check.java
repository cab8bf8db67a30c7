/** Counts the answers that are not the due ones; a test's main method ends with {@link #end}. */
final class Check {
    static final int[] NOT_NOTES = {
        Integer.MIN_VALUE, -32768, -129, -128, -127, -3, -2, -1,
        128, 129, 255, 256, 384, 32768, 65536, 1 << 30, Integer.MAX_VALUE
    };
    static final int[] NOT_VOICES = {
        Integer.MIN_VALUE, -32768, -5, -4, -3, -2, -1,
        4, 5, 7, 8, 127, 128, 256, 65536, 1 << 30, Integer.MAX_VALUE
    };

    private static int wrong = 0;

    private Check() {
    }

    static void due(String what, long got, long want) {
        if (got != want) {
            wrong++;
            System.out.println(what + " answered " + got + ", due is " + want);
        }
    }

    static void on(VoiceAlloc x, int n, int want) {
        due("noteOn(" + n + ")", x.noteOn(n), want);
    }

    static void off(VoiceAlloc x, int n, int want) {
        due("noteOff(" + n + ")", x.noteOff(n), want);
    }

    /** What can be seen of the voices: the four notes, -1 for a free one, and the count that follows. */
    static void voices(String when, VoiceAlloc x, int a, int b, int c, int d) {
        int[] want = {a, b, c, d};
        int sounding = 0;
        for (int v = 0; v < 4; v++) {
            due(when + ": noteAt(" + v + ")", x.noteAt(v), want[v]);
            sounding += want[v] == -1 ? 0 : 1;
        }
        due(when + ": active()", x.active(), sounding);
    }

    /** An object on which the notes were started in turn. */
    static VoiceAlloc started(int... notes) {
        VoiceAlloc x = new VoiceAlloc();
        for (int n : notes) {
            x.noteOn(n);
        }
        return x;
    }

    static void end() {
        if (wrong != 0) {
            System.out.println(wrong + " answers are not as due");
            System.exit(1);
        }
    }
}
