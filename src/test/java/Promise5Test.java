/** Promise 5: noteAt. */
public final class Promise5Test {
    public static void main(String[] args) {
        everyNoteIsSeenOnEveryVoice();
        invalidVoicesAnswerMinusTwo();
        askingChangesNothing();
        Check.end();
    }

    private static void at(VoiceAlloc x, int v, int want) {
        Check.due("noteAt(" + v + ")", x.noteAt(v), want);
    }

    private static void everyNoteIsSeenOnEveryVoice() {
        for (int n = 0; n <= 127; n++) {
            VoiceAlloc x = new VoiceAlloc();
            for (int v = 0; v < 4; v++) {
                at(x, v, -1);
                x.noteOn(n);
                at(x, v, n);
            }
            for (int v = 0; v < 4; v++) {
                x.noteOff(n);
                at(x, v, -1);
            }
        }
    }

    private static void invalidVoicesAnswerMinusTwo() {
        VoiceAlloc x = new VoiceAlloc();
        for (int sounding = 0; sounding <= 5; sounding++) {
            for (int v : Check.NOT_VOICES) {
                at(x, v, -2);
            }
            x.noteOn(sounding);
        }
        Check.voices("after invalid voices", x, 4, 5, 2, 3);
    }

    private static void askingChangesNothing() {
        VoiceAlloc x = Check.started(1, 2, 3, 4, 5);
        for (int i = 0; i < 100; i++) {
            at(x, 0, 5);
            at(x, 1, 2);
            at(x, 2, 3);
            at(x, 3, 4);
            at(x, 4, -2);
            at(x, -1, -2);
        }
        Check.due("active()", x.active(), 4);
        Check.on(x, 6, 1);
        at(x, 2, 3);
        Check.on(x, 7, 2);
        Check.off(x, 5, 0);
        for (int i = 0; i < 100; i++) {
            at(x, 0, -1);
        }
        Check.due("active()", x.active(), 3);
        Check.on(x, 8, 0);
        at(x, 3, 4);
        Check.on(x, 9, 3);
    }
}
