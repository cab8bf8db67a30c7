/** Promise 3: noteOff. */
public final class Promise3Test {
    /** Every note that some scene holds, and some that none does. */
    private static final int[] NOTES = {0, 1, 5, 7, 9, 126, 127, 2, 64, 125};

    public static void main(String[] args) {
        invalidNote();
        noteThatDoesNotSound();
        noteThatSounds();
        inEveryCase();
        Check.end();
    }

    private static void invalidNote() {
        Check.sentence("n < 0: answers -1", () -> answersMinusOne(Check.TOO_SMALL));
        Check.sentence("n > 127: answers -1", () -> answersMinusOne(Check.NOTE_TOO_LARGE));
        Check.sentence("-1 is no name for a free voice", () -> answersMinusOne(-1));
        Check.sentence("every n outside 0..127 answers -1", Promise3Test::everyInvalidNote);
        Check.sentence("invalid: changes nothing", Promise3Test::invalidLeavesEverything);
        Check.sentence("invalid: changes no note and no start", Promise3Test::invalidLeavesVoices);
    }

    private static void noteThatDoesNotSound() {
        Check.sentence("not sounding: answers -1", Promise3Test::notSoundingAnswers);
        Check.sentence("not sounding: changes nothing", Promise3Test::notSoundingLeavesEverything);
        Check.sentence("not sounding: changes no note and no start", Promise3Test::notSoundingLeavesVoices);
        Check.sentence("not sounding: every voice free from the start", Promise3Test::neverStarted);
        Check.sentence("not sounding: every voice free again", Promise3Test::allReleased);
        Check.sentence("not sounding: the note was stolen", Promise3Test::stolenBefore);
    }

    private static void noteThatSounds() {
        Check.sentence("sounding: 0 and 127 and all between can be released", Promise3Test::everyNoteIsReleased);
        Check.sentence("sounding: picks the lowest-numbered holder", Promise3Test::lowestHolderIsPicked);
        Check.sentence("sounding: the lowest, even if it started last", Promise3Test::lowestEvenIfLatest);
        Check.sentence("sounding: frees that voice alone", Promise3Test::freesOneAlone);
        Check.sentence("sounding: answers its number", Promise3Test::answersItsNumber);
        Check.sentence("a freed voice holds no note: noteAt answers -1", Promise3Test::freedHoldsNoNote);
        Check.sentence("active() goes down by one", Promise3Test::activeGoesDown);
        Check.sentence("other holders keep sounding", Promise3Test::otherHoldersSound);
        Check.sentence("other holders keep their starts", Promise3Test::otherHoldersKeepStarts);
        Check.sentence("a later noteOff frees the lowest holder of that time", Promise3Test::lowestHolderAnew);
        Check.sentence("repeated calls free the holders in rising number", Promise3Test::repeatedCallsRise);
        Check.sentence("none left: answers -1", Promise3Test::noneLeft);
    }

    private static void inEveryCase() {
        Check.sentence("never moves the clock: a voice freed", () -> clockStays(true));
        Check.sentence("never moves the clock: nothing freed", () -> clockStays(false));
        Check.sentence("never moves the clock: invalid", Promise3Test::clockStaysOnInvalid);
        Check.sentence("never changes the note of a voice it does not free", Promise3Test::othersKeepNotes);
        Check.sentence("never changes the start of a voice it does not free", Promise3Test::othersKeepStarts);
        Check.sentence("never makes a free voice sound", Promise3Test::freeVoicesStayFree);
    }

    private static void answersMinusOne(int... bad) {
        for (Scene scene : Scene.all()) {
            VoiceAlloc x = scene.build();
            for (int n : bad) {
                Check.off(x, n, -1);
            }
        }
    }

    private static void everyInvalidNote() {
        VoiceAlloc none = new VoiceAlloc();
        VoiceAlloc all = Check.started(0, 1, 126, 127);
        for (int n : Check.widelyOutside(0, 127)) {
            Check.off(none, n, -1);
            Check.off(all, n, -1);
        }
        Check.voices("all free", none, -1, -1, -1, -1);
        Check.voices("all sounding", all, 0, 1, 126, 127);
    }

    private static void invalidLeavesEverything() {
        for (Scene scene : Scene.all()) {
            VoiceAlloc x = scene.build();
            String before = Inside.everything(x);
            for (int bad : Check.NOT_NOTES) {
                x.noteOff(bad);
                Inside.same("noteOff(" + bad + ")", x, before);
            }
        }
    }

    private static void invalidLeavesVoices() {
        for (Scene scene : Scene.all()) {
            for (int bad : Check.NOT_NOTES) {
                VoiceAlloc x = scene.build();
                x.noteOff(bad);
                scene.check("noteOff(" + bad + ")", x);
            }
        }
    }

    private static void notSoundingAnswers() {
        for (Scene scene : Scene.all()) {
            VoiceAlloc x = scene.build();
            for (int n = 0; n <= 127; n++) {
                if (scene.lowest(n) == -1) {
                    Check.off(x, n, -1);
                }
            }
        }
    }

    private static void notSoundingLeavesEverything() {
        for (Scene scene : Scene.all()) {
            VoiceAlloc x = scene.build();
            String before = Inside.everything(x);
            for (int n = 0; n <= 127; n++) {
                if (scene.lowest(n) == -1) {
                    x.noteOff(n);
                    Inside.same("noteOff(" + n + ")", x, before);
                }
            }
        }
    }

    private static void notSoundingLeavesVoices() {
        for (Scene scene : Scene.all()) {
            for (int n : NOTES) {
                if (scene.lowest(n) == -1) {
                    VoiceAlloc x = scene.build();
                    x.noteOff(n);
                    scene.check("noteOff(" + n + ")", x);
                }
            }
        }
    }

    private static void neverStarted() {
        VoiceAlloc x = new VoiceAlloc();
        for (int n = 0; n <= 127; n++) {
            Check.off(x, n, -1);
        }
        Check.voices("nothing to release", x, -1, -1, -1, -1);
        Check.on(x, 5, 0);
    }

    private static void allReleased() {
        VoiceAlloc x = Check.started(0, 1, 126, 127);
        for (int n : new int[] {127, 126, 1, 0}) {
            x.noteOff(n);
        }
        for (int n = 0; n <= 127; n++) {
            Check.off(x, n, -1);
        }
        Check.voices("all released", x, -1, -1, -1, -1);
        Check.on(x, 5, 0);
    }

    private static void stolenBefore() {
        VoiceAlloc x = Check.started(1, 2, 3, 4, 5);
        Check.off(x, 1, -1);
        Check.voices("the stolen note released", x, 5, 2, 3, 4);
    }

    private static void everyNoteIsReleased() {
        for (int n = 0; n <= 127; n++) {
            VoiceAlloc x = Check.started(n);
            Check.off(x, n, 0);
            Check.voices("after noteOff(" + n + ")", x, -1, -1, -1, -1);
            Check.off(x, n, -1);
        }
    }

    private static void lowestHolderIsPicked() {
        for (Scene scene : Scene.all()) {
            for (int v : scene.order) {
                VoiceAlloc x = scene.build();
                x.noteOff(scene.notes[v]);
                Check.at(x, scene.lowest(scene.notes[v]), -1);
            }
        }
    }

    private static void lowestEvenIfLatest() {
        VoiceAlloc x = Check.started(1, 7, 7, 2, 7);
        Check.voices("voice 0 stolen", x, 7, 7, 7, 2);
        Check.off(x, 7, 0);
        Check.voices("voice 0 freed", x, -1, 7, 7, 2);
    }

    private static void freesOneAlone() {
        for (Scene scene : Scene.all()) {
            for (int v : scene.order) {
                VoiceAlloc x = scene.build();
                int lowest = scene.lowest(scene.notes[v]);
                x.noteOff(scene.notes[v]);
                Check.voices("voice " + lowest + " freed", x, scene.freed(lowest).notes);
            }
        }
    }

    private static void answersItsNumber() {
        for (Scene scene : Scene.all()) {
            for (int n : NOTES) {
                Check.off(scene.build(), n, scene.lowest(n));
            }
        }
    }

    private static void freedHoldsNoNote() {
        for (int n : NOTES) {
            VoiceAlloc x = Check.started(n, n, n, n);
            for (int v = 0; v < 4; v++) {
                x.noteOff(n);
                Check.at(x, v, -1);
            }
        }
    }

    private static void activeGoesDown() {
        for (Scene scene : Scene.all()) {
            VoiceAlloc x = scene.build();
            int count = scene.sounding();
            for (int v : scene.order) {
                x.noteOff(scene.notes[v]);
                count--;
                Check.active(x, count);
            }
        }
    }

    private static void otherHoldersSound() {
        VoiceAlloc x = Check.started(7, 7, 7, 7);
        x.noteOff(7);
        Check.voices("one of four released", x, -1, 7, 7, 7);
        x.noteOff(7);
        Check.voices("two of four released", x, -1, -1, 7, 7);
        x.noteOff(7);
        Check.voices("three of four released", x, -1, -1, -1, 7);
    }

    private static void otherHoldersKeepStarts() {
        for (int[] order : Scene.orders()) {
            VoiceAlloc x = Check.started(10, 11, 12, 13);
            for (int v : order) {
                x.noteOff(10 + v);
                x.noteOn(7);
            }
            x.noteOff(7);
            Check.on(x, 20, 0);
            for (int v : order) {
                if (v != 0) {
                    Check.on(x, 21, v);
                }
            }
            Check.on(x, 22, 0);
        }
    }

    private static void lowestHolderAnew() {
        VoiceAlloc x = Check.started(7, 7, 7);
        Check.off(x, 7, 0);
        Check.on(x, 7, 0);
        Check.off(x, 7, 0);
        Check.off(x, 7, 1);
        Check.on(x, 8, 0);
        Check.on(x, 7, 1);
        Check.off(x, 7, 1);
        Check.off(x, 7, 2);
        Check.off(x, 7, -1);
        Check.voices("the end", x, 8, -1, -1, -1);
    }

    private static void repeatedCallsRise() {
        for (int holders = 1; holders < 16; holders++) {
            VoiceAlloc x = withHolders(holders);
            for (int v = 0; v < 4; v++) {
                if ((holders >> v & 1) == 1) {
                    Check.off(x, 7, v);
                }
            }
        }
    }

    private static void noneLeft() {
        for (int holders = 0; holders < 16; holders++) {
            VoiceAlloc x = withHolders(holders);
            for (int i = 0; i < Integer.bitCount(holders); i++) {
                x.noteOff(7);
            }
            Check.off(x, 7, -1);
            Check.off(x, 7, -1);
            Check.active(x, 4 - Integer.bitCount(holders));
        }
    }

    /** The voices of the set hold 7, the others notes of their own. */
    private static VoiceAlloc withHolders(int holders) {
        VoiceAlloc x = new VoiceAlloc();
        for (int v = 0; v < 4; v++) {
            x.noteOn((holders >> v & 1) == 1 ? 7 : 90 + v);
        }
        return x;
    }

    private static void clockStays(boolean whereItFrees) {
        for (Scene scene : Scene.all()) {
            for (int n : NOTES) {
                if (scene.lowest(n) != -1 == whereItFrees) {
                    VoiceAlloc x = scene.build();
                    long before = Inside.clock(x);
                    x.noteOff(n);
                    Check.due("the clock after noteOff(" + n + ")", Inside.clock(x), before);
                }
            }
        }
    }

    private static void clockStaysOnInvalid() {
        for (Scene scene : Scene.all()) {
            VoiceAlloc x = scene.build();
            long before = Inside.clock(x);
            for (int bad : Check.NOT_NOTES) {
                x.noteOff(bad);
                Check.due("the clock after noteOff(" + bad + ")", Inside.clock(x), before);
            }
        }
    }

    private static void othersKeepNotes() {
        for (Scene scene : Scene.all()) {
            for (int n : NOTES) {
                VoiceAlloc x = scene.build();
                x.noteOff(n);
                for (int v : scene.order) {
                    if (v != scene.lowest(n)) {
                        Check.at(x, v, scene.notes[v]);
                    }
                }
            }
        }
    }

    private static void othersKeepStarts() {
        for (Scene scene : Scene.all()) {
            for (int n : NOTES) {
                VoiceAlloc x = scene.build();
                x.noteOff(n);
                int lowest = scene.lowest(n);
                Scene after = lowest == -1 ? scene : scene.freed(lowest);
                after.check("noteOff(" + n + ")", x);
            }
        }
    }

    private static void freeVoicesStayFree() {
        for (Scene scene : Scene.withFreeVoice()) {
            VoiceAlloc x = scene.build();
            for (int n = -2; n <= 129; n++) {
                x.noteOff(n);
                for (int v = 0; v < 4; v++) {
                    if (scene.notes[v] == -1) {
                        Check.at(x, v, -1);
                    }
                }
            }
        }
    }
}
