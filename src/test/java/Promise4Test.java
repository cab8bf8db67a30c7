/** Promise 4: active. */
public final class Promise4Test {
    public static void main(String[] args) {
        countsUpToFourAndDownAgain();
        rejectedCallsLeaveTheCount();
        everySetOfSoundingVoicesIsCounted();
        askingChangesNothing();
        Check.end();
    }

    private static void count(VoiceAlloc x, int want) {
        Check.due("active()", x.active(), want);
    }

    private static void countsUpToFourAndDownAgain() {
        VoiceAlloc x = new VoiceAlloc();
        count(x, 0);
        for (int i = 1; i <= 10; i++) {
            x.noteOn(0);
            count(x, i < 4 ? i : 4);
        }
        for (int i = 3; i >= -2; i--) {
            x.noteOff(0);
            count(x, i > 0 ? i : 0);
        }
    }

    private static void rejectedCallsLeaveTheCount() {
        VoiceAlloc x = new VoiceAlloc();
        for (int sounding = 0; sounding <= 4; sounding++) {
            for (int bad : Check.NOT_NOTES) {
                x.noteOn(bad);
                count(x, sounding);
                x.noteOff(bad);
                count(x, sounding);
            }
            x.noteOff(99);
            count(x, sounding);
            x.noteAt(-1);
            x.noteAt(4);
            count(x, sounding);
            x.noteOn(sounding);
        }
    }

    private static void everySetOfSoundingVoicesIsCounted() {
        for (int freed = 0; freed < 16; freed++) {
            VoiceAlloc x = Check.started(0, 1, 2, 127);
            int[] notes = {0, 1, 2, 127};
            for (int v = 0; v < 4; v++) {
                if ((freed >> v & 1) == 1) {
                    x.noteOff(notes[v]);
                }
            }
            count(x, 4 - Integer.bitCount(freed));
        }
    }

    private static void askingChangesNothing() {
        VoiceAlloc x = Check.started(1, 2, 3, 4, 5);
        for (int i = 0; i < 100; i++) {
            count(x, 4);
        }
        Check.voices("asked often", x, 5, 2, 3, 4);
        Check.on(x, 6, 1);
        count(x, 4);
        Check.on(x, 7, 2);
        Check.off(x, 4, 3);
        for (int i = 0; i < 100; i++) {
            count(x, 3);
        }
        Check.on(x, 8, 3);
        Check.on(x, 9, 0);
    }
}
