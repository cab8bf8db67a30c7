import java.util.ArrayList;
import java.util.List;

/**
 * Compares the class with a second telling of the document that keeps no clock: a list of the
 * sounding voices, earliest start first.
 */
public final class ModelTest {
    private static final class Model {
        private final List<int[]> sounding = new ArrayList<>(); // {voice, note}

        int noteOn(int n) {
            if (n < 0 || n > 127) {
                return -2;
            }
            int voice = sounding.size() == 4 ? sounding.remove(0)[0] : lowestFree();
            sounding.add(new int[] {voice, n});
            return voice;
        }

        int noteOff(int n) {
            int[] lowest = null;
            for (int[] s : sounding) {
                if (s[1] == n && (lowest == null || s[0] < lowest[0])) {
                    lowest = s;
                }
            }
            sounding.remove(lowest);
            return lowest == null ? -1 : lowest[0];
        }

        int noteAt(int v) {
            if (v < 0 || v > 3) {
                return -2;
            }
            for (int[] s : sounding) {
                if (s[0] == v) {
                    return s[1];
                }
            }
            return -1;
        }

        private int lowestFree() {
            int v = 0;
            while (noteAt(v) != -1) {
                v++;
            }
            return v;
        }
    }

    private static final int[] SMALL = {0, 1, 127, -1};

    public static void main(String[] args) {
        Check.sentence("every short run answers as the model", () -> everyShortRun(8));
        Check.sentence("long runs answer as the model", () -> longRuns(400, 500));
        Check.end();
    }

    /** Every run of so many noteOn and noteOff calls over a few notes. */
    private static void everyShortRun(int length) {
        for (int run = 0; run < 1 << 3 * length; run++) {
            VoiceAlloc x = new VoiceAlloc();
            Model model = new Model();
            for (int i = 0, code = run; i < length; i++, code >>= 3) {
                step(x, model, (code & 4) == 0, SMALL[code & 3]);
            }
            compareVoices(x, model);
        }
    }

    /** Longer runs over more notes, from a fixed seed so that each run of the test is the same. */
    private static void longRuns(int runs, int length) {
        long seed = 20261115L;
        for (int run = 0; run < runs; run++) {
            VoiceAlloc x = new VoiceAlloc();
            Model model = new Model();
            int notes = 3 + run % 140;
            for (int i = 0; i < length; i++) {
                seed = seed * 6364136223846793005L + 1442695040888963407L;
                int n = (int) ((seed >>> 33) % notes) - 1;
                step(x, model, (seed >>> 61) < 4 + run % 3, n);
                compareVoices(x, model);
            }
        }
    }

    private static void step(VoiceAlloc x, Model model, boolean on, int n) {
        int got = on ? x.noteOn(n) : x.noteOff(n);
        int want = on ? model.noteOn(n) : model.noteOff(n);
        if (got != want) {
            Check.due((on ? "noteOn(" : "noteOff(") + n + ")", got, want);
            Check.end();
        }
    }

    private static void compareVoices(VoiceAlloc x, Model model) {
        boolean same = x.active() == model.sounding.size();
        for (int v = -1; v <= 4; v++) {
            same &= x.noteAt(v) == model.noteAt(v);
        }
        if (!same) {
            Check.voices("beside the model", x,
                model.noteAt(0), model.noteAt(1), model.noteAt(2), model.noteAt(3));
            Check.due("noteAt(-1)", x.noteAt(-1), -2);
            Check.due("noteAt(4)", x.noteAt(4), -2);
            Check.end();
        }
    }
}
