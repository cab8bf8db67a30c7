public final class VoiceAlloc {
    private static final int VOICES = 4;
    private static final int HIGHEST_NOTE = 127;

    // -1 is outside the notes, so one array tells both the note and whether the voice is free.
    private static final int FREE = -1;
    private static final int NO_VOICE = -1;
    private static final int INVALID = -2;

    private static final long LOWEST_LONG = 1L << 63;

    private final int[] notes = new int[VOICES];
    private final long[] starts = new long[VOICES];

    // A long, because with an int a voice held over 2^32 notes would lose its place in the order.
    private long clock = 0L;

    public VoiceAlloc() {
        // A new array holds zeros, and 0 is a note.
        for (int v = 0; v < VOICES; v++) {
            notes[v] = FREE;
        }
    }

    public int noteOn(int n) {
        if (!isNote(n)) {
            return INVALID;
        }
        int voice = lowestHolding(FREE);
        if (voice == NO_VOICE) {
            voice = earliestStarted();
        }
        notes[voice] = n;
        starts[voice] = clock;
        clock++;
        return voice;
    }

    public int noteOff(int n) {
        // Without this look, noteOff(-1) would find the free voices.
        if (!isNote(n)) {
            return NO_VOICE;
        }
        int voice = lowestHolding(n);
        if (voice != NO_VOICE) {
            notes[voice] = FREE;
        }
        return voice;
    }

    public int active() {
        int sounding = 0;
        for (int v = 0; v < VOICES; v++) {
            if (notes[v] != FREE) {
                sounding++;
            }
        }
        return sounding;
    }

    public int noteAt(int v) {
        if (v < 0 || v >= VOICES) {
            return INVALID;
        }
        // FREE is the very answer that is due for a free voice.
        return notes[v];
    }

    private static boolean isNote(int n) {
        return n >= 0 && n <= HIGHEST_NOTE;
    }

    private int lowestHolding(int held) {
        for (int v = 0; v < VOICES; v++) {
            if (notes[v] == held) {
                return v;
            }
        }
        return NO_VOICE;
    }

    // Asked only when every voice sounds: the start of a free voice is stale.
    private int earliestStarted() {
        int earliest = 0;
        for (int v = 1; v < VOICES; v++) {
            if (age(v) > age(earliest)) {
                earliest = v;
            }
        }
        return earliest;
    }

    // An age, unlike a start, keeps its place in the order when the clock wraps. It is counted from
    // the lowest long, because a count from 0 would turn negative for a voice held over 2^63 notes.
    private long age(int v) {
        return clock - starts[v] + LOWEST_LONG;
    }
}
