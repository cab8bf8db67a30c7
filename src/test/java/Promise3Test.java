/** Promise 3: noteOff. */
public final class Promise3Test {
    public static void main(String[] args) {
        everyNoteIsReleased();
        invalidNotesChangeNothing();
        notesThatDoNotSoundChangeNothing();
        eachVoiceIsFreedAlone();
        lowestHolderIsFreed();
        lowestHolderIsFreedEvenIfItStartedLast();
        lowestHolderIsLookedForAnew();
        startsOfTheOthersStay();
        Check.end();
    }

    private static void everyNoteIsReleased() {
        for (int n = 0; n <= 127; n++) {
            VoiceAlloc x = Check.started(n);
            Check.off(x, n, 0);
            Check.voices("after noteOff(" + n + ")", x, -1, -1, -1, -1);
            Check.off(x, n, -1);
        }
    }

    private static void invalidNotesChangeNothing() {
        for (int bad : Check.NOT_NOTES) {
            VoiceAlloc none = new VoiceAlloc();
            Check.off(none, bad, -1);
            Check.voices("invalid note on a new object", none, -1, -1, -1, -1);

            VoiceAlloc some = Check.started(0, 127);
            Check.off(some, bad, -1);
            Check.voices("invalid note with two voices free", some, 0, 127, -1, -1);

            VoiceAlloc all = Check.started(0, 1, 126, 127);
            Check.off(all, bad, -1);
            Check.voices("invalid note with all sounding", all, 0, 1, 126, 127);
            Check.on(all, 5, 0);
            Check.off(all, bad, -1);
            Check.on(all, 6, 1);
        }
    }

    private static void notesThatDoNotSoundChangeNothing() {
        VoiceAlloc x = Check.started(10, 20, 30, 40);
        for (int n = 0; n <= 127; n++) {
            if (n != 10 && n != 20 && n != 30 && n != 40) {
                Check.off(x, n, -1);
            }
        }
        Check.voices("nothing freed", x, 10, 20, 30, 40);
        for (int i = 0; i < 4; i++) {
            Check.on(x, 50 + i, i);
            Check.off(x, 9, -1);
        }
    }

    private static void eachVoiceIsFreedAlone() {
        for (int v = 0; v < 4; v++) {
            VoiceAlloc x = Check.started(10, 11, 12, 13);
            Check.off(x, 10 + v, v);
            int[] want = {10, 11, 12, 13};
            want[v] = -1;
            Check.voices("voice " + v + " freed", x, want[0], want[1], want[2], want[3]);
            Check.off(x, 10 + v, -1);
            Check.voices("and freed again", x, want[0], want[1], want[2], want[3]);
        }
    }

    /** Every set of holders of one note is freed in rising number, then nothing. */
    private static void lowestHolderIsFreed() {
        for (int holders = 0; holders < 16; holders++) {
            VoiceAlloc x = new VoiceAlloc();
            int[] want = new int[4];
            for (int v = 0; v < 4; v++) {
                want[v] = (holders >> v & 1) == 1 ? 7 : 90 + v;
                Check.on(x, want[v], v);
            }
            for (int v = 0; v < 4; v++) {
                if (want[v] == 7) {
                    Check.off(x, 7, v);
                    want[v] = -1;
                    Check.voices("holders " + holders, x, want[0], want[1], want[2], want[3]);
                }
            }
            Check.off(x, 7, -1);
            Check.voices("holders gone", x, want[0], want[1], want[2], want[3]);
        }
    }

    private static void lowestHolderIsFreedEvenIfItStartedLast() {
        VoiceAlloc x = Check.started(1, 7, 7, 2, 7);
        Check.voices("voice 0 stolen", x, 7, 7, 7, 2);
        Check.off(x, 7, 0);
        Check.voices("voice 0 freed", x, -1, 7, 7, 2);
    }

    private static void lowestHolderIsLookedForAnew() {
        VoiceAlloc x = Check.started(7, 7, 7);
        Check.off(x, 7, 0);
        Check.on(x, 7, 0);
        Check.off(x, 7, 0);
        Check.off(x, 7, 1);
        Check.on(x, 8, 0);
        Check.on(x, 7, 1);
        Check.off(x, 7, 1);
        Check.off(x, 7, 2);
        Check.off(x, 7, -1);
        Check.voices("the end", x, 8, -1, -1, -1);
    }

    /**
     * After any one voice is freed and taken again, the other three are stolen first, in their old
     * order, whichever voice that order begins with.
     */
    private static void startsOfTheOthersStay() {
        for (int first = 0; first < 4; first++) {
            for (int freed = 0; freed < 4; freed++) {
                VoiceAlloc x = Check.started(10, 11, 12, 13);
                for (int v = 0; v < first; v++) {
                    Check.on(x, 10 + v, v);
                }
                Check.off(x, 10 + freed, freed);
                Check.on(x, 20, freed);
                for (int k = 0; k < 4; k++) {
                    int v = (first + k) % 4;
                    if (v != freed) {
                        Check.on(x, 30, v);
                    }
                }
                Check.on(x, 40, freed);
            }
        }
    }
}
