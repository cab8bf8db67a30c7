/** The clock of "What it is": where it begins, what moves it, and that the order of starts has 64 bits. */
public final class ClockTest {
    public static void main(String[] args) {
        Check.sentence("the clock begins at 0", ClockTest::beginsAtZero);
        Check.sentence("it goes up by one on an accepted noteOn that takes a free voice", ClockTest::movesOnFreeVoice);
        Check.sentence("it goes up by one on an accepted noteOn that steals", ClockTest::movesOnSteal);
        Check.sentence("every accepted noteOn, and nothing else, moves it", ClockTest::countsTheAcceptedNotes);
        Check.sentence("the clock has 64 bits", ClockTest::orderLastsAtEveryBit);
        Check.sentence("64 bits: a voice that is held stays the earliest", ClockTest::heldVoicesStayEarliest);
        Check.sentence("later than every start before, also where 64 bits wrap", ClockTest::orderLastsAtTheWrap);
        Check.end();
    }

    private static void clock(VoiceAlloc x, long want) {
        Check.due("the clock", Inside.clock(x), want);
    }

    private static void beginsAtZero() {
        clock(new VoiceAlloc(), 0);
        Check.started(1, 2, 3);
        clock(new VoiceAlloc(), 0);
    }

    private static void movesOnFreeVoice() {
        for (Scene scene : Scene.withFreeVoice()) {
            oneNoteMovesIt(scene);
        }
    }

    private static void movesOnSteal() {
        for (Scene scene : Scene.full()) {
            oneNoteMovesIt(scene);
        }
    }

    private static void oneNoteMovesIt(Scene scene) {
        for (int n : new int[] {0, 7, 127}) {
            VoiceAlloc x = scene.build();
            long before = Inside.clock(x);
            x.noteOn(n);
            clock(x, before + 1);
        }
    }

    private static void countsTheAcceptedNotes() {
        VoiceAlloc x = new VoiceAlloc();
        VoiceAlloc other = new VoiceAlloc();
        int accepted = 0;
        for (int i = 0; i < 10000; i++) {
            int n = i * 7 % 135 - 3;
            accepted += n >= 0 && n <= 127 ? 1 : 0;
            x.noteOn(n);
            clock(x, accepted);
            x.noteOff(i * 5 % 135 - 3);
            x.active();
            x.noteAt(i % 8 - 2);
            other.noteOn(5);
            clock(x, accepted);
        }
    }

    /** Notes that start around each power of two are stolen in the order of their starts. */
    private static void orderLastsAtEveryBit() {
        for (int bit = 3; bit < 63; bit++) {
            VoiceAlloc x = new VoiceAlloc();
            Inside.passClock(x, (1L << bit) - 6);
            for (int i = 0; i < 24; i++) {
                Check.on(x, i, i % 4);
            }
        }
    }

    /** Three voices sound while very many notes start on the fourth. */
    private static void heldVoicesStayEarliest() {
        for (int bit = 3; bit < 63; bit++) {
            for (int d = -8; d <= 8; d++) {
                VoiceAlloc x = Check.started(10, 11, 12, 13);
                x.noteOff(10);
                Inside.passClock(x, (1L << bit) + d);
                Check.on(x, 14, 0);
                Check.on(x, 15, 1);
                Check.on(x, 16, 2);
                Check.on(x, 17, 3);
                Check.on(x, 18, 0);
            }
        }
    }

    /** From the highest positive number to the lowest negative one, and from -1 to 0. */
    private static void orderLastsAtTheWrap() {
        for (long wrap : new long[] {Long.MIN_VALUE, 0L}) {
            for (int d = 1; d <= 12; d++) {
                VoiceAlloc x = new VoiceAlloc();
                Inside.passClock(x, wrap - d);
                for (int i = 0; i < 24; i++) {
                    Check.on(x, i, i % 4);
                }
            }
        }
    }
}
