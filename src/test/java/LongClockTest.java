/**
 * The clock has 64 bits, seen from outside alone: really plays so many notes that one of 32 bits
 * would wrap, signed or not.
 */
public final class LongClockTest {
    private static final int MOVING = 0;
    private static final int HELD = 1;
    private static final int CHUNK = 1 << 20;

    public static void main(String[] args) {
        Check.sentence("64-bit clock: the order of starts lasts past 2^31 notes", () -> stealAcross(1L << 31));
        Check.sentence("64-bit clock: the order of starts lasts past 2^32 notes", () -> stealAcross(1L << 32));
        Check.end();
    }

    /**
     * Voice 0 starts again and again until its start is the given one, which 32 bits would take for
     * the lowest number or for 0, while the others keep their first starts: they are earlier.
     */
    private static void stealAcross(long start) {
        VoiceAlloc x = Check.started(MOVING, HELD, HELD, HELD);
        long wrong = 0;
        for (long clock = 4; clock <= start; clock += CHUNK) {
            wrong += restartVoiceZero(x, (int) Math.min(CHUNK, start - clock + 1));
        }
        Check.due("how often voice 0 was not freed and taken", wrong, 0);
        for (int i = 1; i <= 12; i++) {
            Check.on(x, 60 + i, i % 4);
        }
    }

    private static int restartVoiceZero(VoiceAlloc x, int times) {
        int wrong = 0;
        for (int i = 0; i < times; i++) {
            wrong += x.noteOff(MOVING) == 0 && x.noteOn(MOVING) == 0 ? 0 : 1;
        }
        return wrong;
    }
}
