/** Promise 5: noteAt. */
public final class Promise5Test {
    public static void main(String[] args) {
        Check.sentence("v < 0: answers -2", () -> answersMinusTwo(Check.TOO_SMALL));
        Check.sentence("v > 3: answers -2", () -> answersMinusTwo(Check.VOICE_TOO_LARGE));
        Check.sentence("-1 answers -2", () -> answersMinusTwo(-1));
        Check.sentence("4 answers -2", () -> answersMinusTwo(4));
        Check.sentence("Integer.MIN_VALUE answers -2", () -> answersMinusTwo(Integer.MIN_VALUE));
        Check.sentence("Integer.MAX_VALUE answers -2", () -> answersMinusTwo(Integer.MAX_VALUE));
        Check.sentence("every v outside 0..3 answers -2", Promise5Test::everyInvalidVoice);
        Check.sentence("v sounding: answers its note", Promise5Test::soundingAnswersNote);
        Check.sentence("v sounding: every note from 0 to 127, on every voice", Promise5Test::everyNoteEverywhere);
        Check.sentence("v sounding: the new note, once stolen", Promise5Test::newNoteOnceStolen);
        Check.sentence("v free: answers -1", Promise5Test::freeAnswersMinusOne);
        Check.sentence("v free: never used", Promise5Test::neverUsed);
        Check.sentence("v free: released", Promise5Test::released);
        Check.sentence("changes no note and no free/sounding status", Promise5Test::changesNoNote);
        Check.sentence("changes no start time", Promise5Test::changesNoStart);
        Check.sentence("does not move the clock", Promise5Test::clockStays);
        Check.sentence("changes nothing", Promise5Test::changesNothing);
        Check.end();
    }

    private static void answersMinusTwo(int... bad) {
        for (Scene scene : Scene.all()) {
            VoiceAlloc x = scene.build();
            for (int v : bad) {
                Check.at(x, v, -2);
            }
        }
    }

    private static void everyInvalidVoice() {
        VoiceAlloc none = new VoiceAlloc();
        VoiceAlloc all = Check.started(0, 1, 126, 127);
        for (int v : Check.widelyOutside(0, 3)) {
            Check.at(none, v, -2);
            Check.at(all, v, -2);
        }
    }

    private static void soundingAnswersNote() {
        for (Scene scene : Scene.all()) {
            VoiceAlloc x = scene.build();
            for (int v : scene.order) {
                Check.at(x, v, scene.notes[v]);
            }
        }
    }

    private static void everyNoteEverywhere() {
        for (int n = 0; n <= 127; n++) {
            VoiceAlloc x = new VoiceAlloc();
            for (int v = 0; v < 4; v++) {
                x.noteOn(n);
                Check.at(x, v, n);
            }
        }
    }

    private static void newNoteOnceStolen() {
        VoiceAlloc x = Check.started(1, 2, 3, 4);
        for (int v = 0; v < 4; v++) {
            x.noteOn(10 + v);
            Check.at(x, v, 10 + v);
        }
    }

    private static void freeAnswersMinusOne() {
        for (Scene scene : Scene.withFreeVoice()) {
            VoiceAlloc x = scene.build();
            for (int v = 0; v < 4; v++) {
                if (scene.notes[v] == -1) {
                    Check.at(x, v, -1);
                }
            }
        }
    }

    private static void neverUsed() {
        VoiceAlloc x = new VoiceAlloc();
        for (int used = 0; used < 4; used++) {
            for (int v = used; v < 4; v++) {
                Check.at(x, v, -1);
            }
            x.noteOn(0);
        }
    }

    private static void released() {
        VoiceAlloc x = Check.started(0, 1, 126, 127);
        x.noteOff(126);
        Check.at(x, 2, -1);
        x.noteOff(0);
        Check.at(x, 0, -1);
        x.noteOff(127);
        Check.at(x, 3, -1);
        x.noteOff(1);
        Check.at(x, 1, -1);
    }

    private static void changesNoNote() {
        for (Scene scene : Scene.all()) {
            VoiceAlloc x = scene.build();
            askAll(x);
            askAll(x);
            Check.voices("noteAt often", x, scene.notes);
        }
    }

    private static void changesNoStart() {
        for (Scene scene : Scene.all()) {
            for (int v = -1; v <= 4; v++) {
                VoiceAlloc x = scene.build();
                x.noteAt(v);
                scene.check("noteAt(" + v + ")", x);
            }
            VoiceAlloc x = scene.build();
            askAll(x);
            scene.check("noteAt often", x);
        }
    }

    private static void clockStays() {
        for (Scene scene : Scene.all()) {
            VoiceAlloc x = scene.build();
            long before = Inside.clock(x);
            askAll(x);
            Check.due("the clock", Inside.clock(x), before);
        }
    }

    private static void changesNothing() {
        for (Scene scene : Scene.all()) {
            VoiceAlloc x = scene.build();
            String before = Inside.everything(x);
            askAll(x);
            Inside.same("noteAt", x, before);
        }
    }

    private static void askAll(VoiceAlloc x) {
        for (int v = 0; v < 4; v++) {
            x.noteAt(v);
        }
        for (int v : Check.NOT_VOICES) {
            x.noteAt(v);
        }
    }
}
