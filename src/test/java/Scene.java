import java.util.ArrayList;
import java.util.Arrays;
import java.util.List;

/**
 * A state of the four voices, as the document tells it: which note each holds, and in what order
 * the sounding ones started.
 */
final class Scene {
    private static final int FREE = -1;

    // Notes that only building uses; those of the scenes below are others.
    private static final int FIRST = 100;
    private static final int TO_BE_FREED = 110;

    private static final int[][] LAYOUTS = {{0, 127, 1, 126}, {7, 7, 7, 7}, {5, 9, 9, 5}, {9, 9, 5, 9}};

    /** By voice, -1 for a free one. */
    final int[] notes;
    /** The sounding voices, earliest start first. */
    final int[] order;
    /** How to come here: the order in which all four start; empty for voices that start in turn and once. */
    private final int[] starts;

    private Scene(int[] notes, int[] order, int[] starts) {
        this.notes = notes;
        this.order = order;
        this.starts = starts;
    }

    /** Every order of starts with every set of free voices, and the first voices of a new object. */
    static List<Scene> all() {
        List<Scene> scenes = new ArrayList<>();
        for (int[] layout : LAYOUTS) {
            for (int freed = 0; freed < 16; freed++) {
                for (int[] starts : orders()) {
                    scenes.add(reached(layout, freed, starts));
                }
            }
            for (int used = 0; used <= 4; used++) {
                int unused = 15 & 15 << used;
                scenes.add(new Scene(without(layout, unused), kept(new int[] {0, 1, 2, 3}, unused), new int[0]));
            }
        }
        return scenes;
    }

    static List<Scene> full() {
        return all().stream().filter(s -> s.sounding() == 4).toList();
    }

    static List<Scene> withFreeVoice() {
        return all().stream().filter(s -> s.sounding() < 4).toList();
    }

    /** The 24 orders of the voices 0 to 3. */
    static List<int[]> orders() {
        List<int[]> found = new ArrayList<>();
        for (int code = 0; code < 256; code++) {
            int[] order = {code & 3, code >> 2 & 3, code >> 4 & 3, code >> 6 & 3};
            if ((1 << order[0] | 1 << order[1] | 1 << order[2] | 1 << order[3]) == 15) {
                found.add(order);
            }
        }
        return found;
    }

    VoiceAlloc build() {
        return starts.length == 0 ? Check.started(Arrays.copyOf(notes, sounding())) : buildInOrder();
    }

    private VoiceAlloc buildInOrder() {
        VoiceAlloc x = Check.started(FIRST, FIRST + 1, FIRST + 2, FIRST + 3);
        for (int v : starts) {
            x.noteOff(FIRST + v);
            x.noteOn(notes[v] == FREE ? TO_BE_FREED + v : notes[v]);
        }
        for (int v = 0; v < 4; v++) {
            if (notes[v] == FREE) {
                x.noteOff(TO_BE_FREED + v);
            }
        }
        return x;
    }

    int sounding() {
        return order.length;
    }

    /** The lowest voice that holds the note, or that is free for -1; -1 if there is none. */
    int lowest(int held) {
        for (int v = 0; v < 4; v++) {
            if (notes[v] == held) {
                return v;
            }
        }
        return -1;
    }

    int lowestFree() {
        return lowest(FREE);
    }

    /** What this scene becomes when the voice starts a note: it is the latest then. */
    Scene started(int voice, int note) {
        int[] after = notes.clone();
        after[voice] = note;
        int[] others = kept(order, 1 << voice);
        int[] later = Arrays.copyOf(others, others.length + 1);
        later[others.length] = voice;
        return new Scene(after, later, starts);
    }

    /** What this scene becomes when the voice is freed. */
    Scene freed(int voice) {
        return new Scene(without(notes, 1 << voice), kept(order, 1 << voice), starts);
    }

    /** Compares what can be seen, then the order of starts: fills the free voices and steals the others. */
    void check(String when, VoiceAlloc x) {
        String where = when + " on " + this;
        Check.voices(where, x, notes);
        for (int v = 0; v < 4; v++) {
            if (notes[v] == FREE) {
                Check.due(where + ": a free voice, taken", x.noteOn(64), v);
            }
        }
        for (int v : order) {
            Check.due(where + ": the earliest voice, stolen", x.noteOn(64), v);
        }
    }

    @Override
    public String toString() {
        return Arrays.toString(notes) + " started in the order " + Arrays.toString(order);
    }

    private static Scene reached(int[] layout, int freed, int[] starts) {
        return new Scene(without(layout, freed), kept(starts, freed), starts);
    }

    private static int[] without(int[] notes, int freed) {
        int[] left = notes.clone();
        for (int v = 0; v < 4; v++) {
            if ((freed >> v & 1) == 1) {
                left[v] = FREE;
            }
        }
        return left;
    }

    private static int[] kept(int[] voices, int freed) {
        return Arrays.stream(voices).filter(v -> (freed >> v & 1) == 0).toArray();
    }
}
