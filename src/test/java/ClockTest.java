/** The clock of "What it is": where it begins, what moves it, and that the order of starts has 64 bits. */
public final class ClockTest {
    public static void main(String[] args) {
        Check.sentence("the clock begins at 0", ClockTest::beginsAtZero);
        Check.sentence("it goes up by one on an accepted noteOn that takes a free voice", ClockTest::movesOnFreeVoice);
        Check.sentence("it goes up by one on an accepted noteOn that steals", ClockTest::movesOnSteal);
        Check.sentence("every accepted noteOn, and nothing else, moves it", ClockTest::countsTheAcceptedNotes);
        Check.sentence("the clock has 64 bits", ClockTest::orderLastsAtEveryBit);
        Check.sentence("64 bits: a voice that is held stays the earliest", ClockTest::heldVoicesStayEarliest);
        Check.sentence("64 bits: a voice that is held over nearly 2^64 notes", ClockTest::heldAsLongAsTheClockLasts);
        Check.sentence("later than every start before, also where 64 bits wrap", ClockTest::orderLastsAtTheWrap);
        Check.sentence("starts are totally ordered, however far apart", ClockTest::farStartsAreOrdered);
        Check.sentence("its only visible effect is which voice is stolen", ClockTest::nothingElseShowsIt);
        Check.end();
    }

    private static void clock(VoiceAlloc x, long want) {
        Check.due("the clock", Inside.clock(x), want);
    }

    private static void beginsAtZero() {
        clock(new VoiceAlloc(), 0);
        Check.started(1, 2, 3);
        clock(new VoiceAlloc(), 0);
    }

    private static void movesOnFreeVoice() {
        for (Scene scene : Scene.withFreeVoice()) {
            oneNoteMovesIt(scene);
        }
    }

    private static void movesOnSteal() {
        for (Scene scene : Scene.full()) {
            oneNoteMovesIt(scene);
        }
    }

    private static void oneNoteMovesIt(Scene scene) {
        for (int n : new int[] {0, 7, 127}) {
            VoiceAlloc x = scene.build();
            long before = Inside.clock(x);
            x.noteOn(n);
            clock(x, before + 1);
        }
    }

    private static void countsTheAcceptedNotes() {
        VoiceAlloc x = new VoiceAlloc();
        VoiceAlloc other = new VoiceAlloc();
        int accepted = 0;
        for (int i = 0; i < 10000; i++) {
            int n = i * 7 % 135 - 3;
            accepted += n >= 0 && n <= 127 ? 1 : 0;
            x.noteOn(n);
            clock(x, accepted);
            x.noteOff(i * 5 % 135 - 3);
            x.active();
            x.noteAt(i % 8 - 2);
            other.noteOn(5);
            clock(x, accepted);
        }
    }

    /** Notes that start around each power of two are stolen in the order of their starts. */
    private static void orderLastsAtEveryBit() {
        for (int bit = 3; bit < 63; bit++) {
            VoiceAlloc x = new VoiceAlloc();
            Inside.passClock(x, (1L << bit) - 6);
            for (int i = 0; i < 24; i++) {
                Check.on(x, i, i % 4);
            }
        }
    }

    /** Three voices sound while very many notes start on the fourth. */
    private static void heldVoicesStayEarliest() {
        for (int bit = 3; bit < 64; bit++) {
            for (int d = -8; d <= 8; d++) {
                threeHeldWhilePassing((1L << bit) + d);
            }
        }
    }

    /** A minus stands for 2^64 less so many: with fewer than 5, a held voice would come to 2^64 notes. */
    private static void heldAsLongAsTheClockLasts() {
        for (int d = 5; d <= 40; d++) {
            threeHeldWhilePassing(-d);
        }
    }

    private static void threeHeldWhilePassing(long notes) {
        VoiceAlloc x = Check.started(10, 11, 12, 13);
        x.noteOff(10);
        Inside.passClock(x, notes);
        Check.on(x, 14, 0);
        Check.on(x, 15, 1);
        Check.on(x, 16, 2);
        Check.on(x, 17, 3);
        Check.on(x, 18, 0);
    }

    /** From the highest positive number to the lowest negative one, and from -1 to 0. */
    private static void orderLastsAtTheWrap() {
        for (long wrap : new long[] {Long.MIN_VALUE, 0L}) {
            for (int d = 1; d <= 12; d++) {
                VoiceAlloc x = new VoiceAlloc();
                Inside.passClock(x, wrap - d);
                for (int i = 0; i < 24; i++) {
                    Check.on(x, i, i % 4);
                }
            }
        }
    }

    /** Every order of starts, with every choice of gaps between them and after the last. */
    private static void farStartsAreOrdered() {
        // Four of the greatest, with the notes themselves, stay under 2^64.
        long[] gaps = {0L, 1L << 31, 1L << 32, (1L << 62) - 16};
        for (long begin : new long[] {0L, Long.MAX_VALUE, -6L}) {
            for (int[] order : Scene.orders()) {
                for (int choice = 0; choice < 256; choice++) {
                    startWithGaps(begin, order, gaps, choice);
                }
            }
        }
    }

    private static void startWithGaps(long begin, int[] order, long[] gaps, int choice) {
        VoiceAlloc x = Check.started(10, 11, 12, 13);
        Inside.passClock(x, begin);
        for (int i = 0; i < 4; i++) {
            x.noteOff(10 + order[i]);
            x.noteOn(20);
            Inside.passClock(x, gaps[choice >> 2 * i & 3]);
        }
        for (int v : order) {
            Check.on(x, 30, v);
        }
    }

    /** The same state answers alike, wherever the clock stands. */
    private static void nothingElseShowsIt() {
        for (long notes : new long[] {1L, 1L << 31, 1L << 32, Long.MAX_VALUE, Long.MIN_VALUE, -100L}) {
            for (Scene scene : Scene.all()) {
                scene.check("the clock passed by " + notes, later(scene, notes));
                Check.on(later(scene, notes), 128, -2);
                Check.at(later(scene, notes), 4, -2);
                for (int n : new int[] {-1, 0, 7, 9, 64, 127}) {
                    Check.off(later(scene, notes), n, n == -1 ? -1 : scene.lowest(n));
                }
            }
        }
    }

    private static VoiceAlloc later(Scene scene, long notes) {
        VoiceAlloc x = scene.build();
        Inside.passClock(x, notes);
        return x;
    }
}
