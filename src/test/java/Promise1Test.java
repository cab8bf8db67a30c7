/** Promise 1: construction and starting state. */
public final class Promise1Test {
    public static void main(String[] args) {
        Check.sentence("new VoiceAlloc() always succeeds", Promise1Test::alwaysSucceeds);
        Check.sentence("right after construction all 4 voices are free", Promise1Test::allFree);
        Check.sentence("right after construction no note sounds", Promise1Test::noNoteSounds);
        Check.sentence("right after construction active() answers 0", Promise1Test::noneActive);
        Check.sentence("right after construction noteAt(0..3) answers -1", Promise1Test::noNotes);
        Check.sentence("right after construction noteAt(v) answers -2 for v too small", Promise1Test::voiceTooSmall);
        Check.sentence("right after construction noteAt(v) answers -2 for v too large", Promise1Test::voiceTooLarge);
        Check.sentence("right after construction noteAt answers -2 for every other v", Promise1Test::everyOtherVoice);
        Check.sentence("right after construction the clock is 0", Promise1Test::clockIsZero);
        Check.sentence("instances are independent: notes", Promise1Test::notesAreOnesOwn);
        Check.sentence("instances are independent: order of starts", Promise1Test::startsAreOnesOwn);
        Check.sentence("instances are independent: no call changes another", Promise1Test::noCallChangesAnother);
        Check.sentence("instances are independent: construction", Promise1Test::constructionChangesNoOther);
        Check.end();
    }

    private static void alwaysSucceeds() {
        for (int i = 0; i < 100000; i++) {
            VoiceAlloc x = new VoiceAlloc();
            Check.active(x, 0);
            Check.on(x, i & 127, 0);
        }
    }

    private static void allFree() {
        VoiceAlloc x = new VoiceAlloc();
        for (int v = 0; v < 4; v++) {
            Check.on(x, 60, v);
            Check.active(x, v + 1);
        }
    }

    private static void noNoteSounds() {
        VoiceAlloc x = new VoiceAlloc();
        for (int n = 0; n <= 127; n++) {
            Check.off(x, n, -1);
        }
    }

    private static void noneActive() {
        Check.active(new VoiceAlloc(), 0);
    }

    private static void noNotes() {
        VoiceAlloc x = new VoiceAlloc();
        for (int v = 0; v <= 3; v++) {
            Check.at(x, v, -1);
        }
    }

    private static void voiceTooSmall() {
        VoiceAlloc x = new VoiceAlloc();
        for (int v : Check.TOO_SMALL) {
            Check.at(x, v, -2);
        }
    }

    private static void voiceTooLarge() {
        VoiceAlloc x = new VoiceAlloc();
        for (int v : Check.VOICE_TOO_LARGE) {
            Check.at(x, v, -2);
        }
    }

    private static void everyOtherVoice() {
        VoiceAlloc x = new VoiceAlloc();
        for (int v : Check.widelyOutside(0, 3)) {
            Check.at(x, v, -2);
        }
    }

    private static void clockIsZero() {
        Check.due("the clock", Inside.clock(new VoiceAlloc()), 0);
    }

    private static void notesAreOnesOwn() {
        VoiceAlloc x = new VoiceAlloc();
        VoiceAlloc y = new VoiceAlloc();
        Check.on(x, 60, 0);
        Check.voices("after a noteOn on another object", y, -1, -1, -1, -1);
        Check.on(y, 61, 0);
        Check.on(y, 62, 1);
        Check.voices("first object", x, 60, -1, -1, -1);
        Check.off(x, 61, -1);
        Check.off(x, 60, 0);
        Check.voices("second object", y, 61, 62, -1, -1);
    }

    private static void startsAreOnesOwn() {
        VoiceAlloc x = Check.started(1, 2, 3, 4);
        VoiceAlloc y = Check.started(5, 6, 7, 8, 9);
        Check.on(x, 10, 0);
        Check.on(y, 11, 1);
        Check.on(x, 12, 1);
        Check.on(y, 13, 2);
        Check.voices("first object", x, 10, 12, 3, 4);
        Check.voices("second object", y, 9, 11, 13, 8);
    }

    private static void noCallChangesAnother() {
        for (Scene scene : Scene.all()) {
            VoiceAlloc x = scene.build();
            String before = Inside.everything(x);
            VoiceAlloc y = Check.started(5, 7, 9, 0, 127);
            y.noteOff(7);
            y.noteOff(7);
            y.noteOn(-1);
            y.active();
            y.noteAt(0);
            y.noteAt(4);
            Inside.same("calls on another object", x, before);
            scene.check("calls on another object", x);
        }
    }

    private static void constructionChangesNoOther() {
        for (Scene scene : Scene.all()) {
            VoiceAlloc x = scene.build();
            Check.voices("made beside another", new VoiceAlloc(), -1, -1, -1, -1);
            scene.check("another object made", x);
        }
    }
}
