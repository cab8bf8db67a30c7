/** The clock has 64 bits: the order of starts holds beyond 2^31 accepted notes, where 32 bits would wrap. */
public final class LongClockTest {
    public static void main(String[] args) {
        VoiceAlloc x = new VoiceAlloc();
        long notes = (1L << 31) + 16;
        for (long i = 0; i < notes; i++) {
            if (x.noteOn((int) (i & 127)) != (int) (i & 3)) {
                Check.due("accepted noteOn number " + i + ": the right voice (1 for yes)", 0, 1);
                break;
            }
        }
        Check.end();
    }
}
