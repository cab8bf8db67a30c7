/** The clock has 64 bits: the order of starts holds beyond 2^31 and 2^32 accepted notes. */
public final class LongClockTest {
    public static void main(String[] args) {
        VoiceAlloc x = new VoiceAlloc();
        long notes = (1L << 32) + 16;
        for (long i = 0; i < notes; i++) {
            if (x.noteOn((int) (i & 127)) != (int) (i & 3)) {
                Check.due("accepted noteOn number " + i + ": the right voice (1 for yes)", 0, 1);
                break;
            }
        }
        Check.end();
    }
}
