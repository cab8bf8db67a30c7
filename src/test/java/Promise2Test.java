/** Promise 2: noteOn. */
public final class Promise2Test {
    public static void main(String[] args) {
        everyNoteIsAccepted();
        invalidNotesChangeNothing();
        lowestFreeVoiceIsChosen();
        freeVoiceGoesBeforeAnySteal();
        earliestStartIsStolen();
        stolenNoteLeavesNoTrace();
        reusedVoiceCountsFromItsNewStart();
        stealOrderFollowsStartsNotNumbers();
        sameNoteMaySoundSeveralTimes();
        stealingAVoiceThatHoldsTheNoteStillRestartsIt();
        Check.end();
    }

    private static void everyNoteIsAccepted() {
        for (int n = 0; n <= 127; n++) {
            VoiceAlloc x = new VoiceAlloc();
            Check.on(x, n, 0);
            Check.voices("after noteOn(" + n + ")", x, n, -1, -1, -1);
        }
    }

    private static void invalidNotesChangeNothing() {
        for (int bad : Check.NOT_NOTES) {
            VoiceAlloc none = new VoiceAlloc();
            Check.on(none, bad, -2);
            Check.voices("invalid note on a new object", none, -1, -1, -1, -1);
            Check.on(none, 5, 0);

            VoiceAlloc some = Check.started(0, 127);
            Check.on(some, bad, -2);
            Check.voices("invalid note with two voices free", some, 0, 127, -1, -1);
            Check.on(some, 9, 2);

            VoiceAlloc all = Check.started(1, 2, 3, 4, 5);
            Check.on(all, bad, -2);
            Check.voices("invalid note with all sounding", all, 5, 2, 3, 4);
            Check.on(all, 6, 1);
            Check.on(all, bad, -2);
            Check.on(all, 7, 2);
            Check.on(all, 8, 3);
            Check.on(all, 9, 0);
        }
    }

    /** Every set of free voices: the free ones are taken in rising number, the others stay. */
    private static void lowestFreeVoiceIsChosen() {
        for (int freed = 0; freed < 16; freed++) {
            VoiceAlloc x = Check.started(10, 11, 12, 13);
            int[] want = {10, 11, 12, 13};
            for (int v = 3; v >= 0; v--) {
                if ((freed >> v & 1) == 1) {
                    Check.off(x, 10 + v, v);
                    want[v] = -1;
                }
            }
            for (int v = 0; v < 4; v++) {
                if (want[v] == -1) {
                    Check.on(x, 20 + v, v);
                    want[v] = 20 + v;
                    Check.voices("freed set " + freed, x, want[0], want[1], want[2], want[3]);
                }
            }
        }
    }

    private static void freeVoiceGoesBeforeAnySteal() {
        VoiceAlloc x = Check.started(1, 2, 3, 4);
        Check.off(x, 4, 3);
        Check.on(x, 5, 3);
        Check.voices("the latest voice freed", x, 1, 2, 3, 5);
    }

    private static void earliestStartIsStolen() {
        VoiceAlloc x = Check.started(40, 41, 42, 43);
        Check.on(x, 44, 0);
        Check.voices("one stolen", x, 44, 41, 42, 43);
        Check.on(x, 45, 1);
        Check.voices("two stolen", x, 44, 45, 42, 43);
        Check.on(x, 46, 2);
        Check.on(x, 47, 3);
        Check.voices("four stolen", x, 44, 45, 46, 47);
        Check.on(x, 48, 0);
        Check.voices("five stolen", x, 48, 45, 46, 47);
    }

    private static void stolenNoteLeavesNoTrace() {
        VoiceAlloc x = Check.started(40, 41, 42, 43, 44);
        Check.off(x, 40, -1);
        Check.off(x, 44, 0);
        Check.voices("the thief freed", x, -1, 41, 42, 43);
        Check.off(x, 40, -1);
        Check.on(x, 45, 0);
    }

    private static void reusedVoiceCountsFromItsNewStart() {
        VoiceAlloc x = Check.started(1, 2, 3, 4);
        Check.off(x, 1, 0);
        Check.on(x, 5, 0);
        Check.on(x, 6, 1);
        Check.on(x, 7, 2);
        Check.on(x, 8, 3);
        Check.on(x, 9, 0);
        Check.voices("reused", x, 9, 6, 7, 8);
    }

    /** For every order of four starts, the steals come in that order. */
    private static void stealOrderFollowsStartsNotNumbers() {
        for (int code = 0; code < 256; code++) {
            int[] order = {code & 3, code >> 2 & 3, code >> 4 & 3, code >> 6 & 3};
            if ((1 << order[0] | 1 << order[1] | 1 << order[2] | 1 << order[3]) != 15) {
                continue;
            }
            VoiceAlloc x = Check.started(10, 11, 12, 13);
            for (int i = 0; i < 4; i++) {
                Check.off(x, 10 + order[i], order[i]);
                Check.on(x, 20 + order[i], order[i]);
            }
            for (int i = 0; i < 8; i++) {
                Check.on(x, 30 + i, order[i % 4]);
            }
        }
    }

    private static void sameNoteMaySoundSeveralTimes() {
        VoiceAlloc x = new VoiceAlloc();
        for (int i = 0; i < 9; i++) {
            Check.on(x, 0, i % 4);
        }
        Check.voices("one note on all voices", x, 0, 0, 0, 0);

        VoiceAlloc y = Check.started(1, 2, 3, 4);
        Check.on(y, 3, 0);
        Check.voices("the note sounds elsewhere", y, 3, 2, 3, 4);
        Check.on(y, 3, 1);
        Check.on(y, 9, 2);
        Check.voices("and the older one is stolen in its turn", y, 3, 3, 9, 4);
    }

    private static void stealingAVoiceThatHoldsTheNoteStillRestartsIt() {
        VoiceAlloc x = Check.started(1, 2, 3, 4);
        Check.on(x, 1, 0);
        Check.voices("same note stolen", x, 1, 2, 3, 4);
        Check.on(x, 5, 1);
        Check.on(x, 6, 2);
        Check.on(x, 7, 3);
        Check.on(x, 8, 0);
    }
}
