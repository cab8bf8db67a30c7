/** Promise 4: active. */
public final class Promise4Test {
    public static void main(String[] args) {
        Check.sentence("answers the number of voices that are not free", Promise4Test::countsSounding);
        Check.sentence("0, where none sounds", Promise4Test::none);
        Check.sentence("4, where all sound, and never more", Promise4Test::neverMoreThanFour);
        Check.sentence("0, and never less", Promise4Test::neverLessThanNone);
        Check.sentence("it changes nothing", Promise4Test::changesNothing);
        Check.sentence("it changes no note and no start", Promise4Test::changesNoVoice);
        Check.sentence("any number of calls give the same answer", Promise4Test::sameAnswerOften);
        Check.sentence("up by one on a noteOn that takes a free voice", Promise4Test::upOnFreeVoice);
        Check.sentence("the same on a noteOn that steals", Promise4Test::sameOnSteal);
        Check.sentence("the same on a noteOn that is rejected", Promise4Test::sameOnRejectedNoteOn);
        Check.sentence("the same on a noteAt that is rejected", Promise4Test::sameOnRejectedNoteAt);
        Check.sentence("down by one on a noteOff that frees a voice", Promise4Test::downOnFreed);
        Check.sentence("the same on a noteOff of an invalid note", Promise4Test::sameOnInvalidNoteOff);
        Check.sentence("the same on a noteOff of a note that does not sound", Promise4Test::sameOnNothingFreed);
        Check.end();
    }

    private static void countsSounding() {
        for (Scene scene : Scene.all()) {
            Check.active(scene.build(), scene.sounding());
        }
    }

    private static void none() {
        Check.active(new VoiceAlloc(), 0);
        VoiceAlloc x = Check.started(0);
        x.noteOff(0);
        Check.active(x, 0);
    }

    private static void neverMoreThanFour() {
        VoiceAlloc x = Check.started(0, 0, 0, 0);
        Check.active(x, 4);
        for (int i = 0; i < 300; i++) {
            x.noteOn(i & 127);
            Check.active(x, 4);
        }
    }

    private static void neverLessThanNone() {
        VoiceAlloc x = Check.started(3);
        for (int i = 0; i < 300; i++) {
            x.noteOff(3);
            Check.active(x, 0);
        }
    }

    private static void changesNothing() {
        for (Scene scene : Scene.all()) {
            VoiceAlloc x = scene.build();
            String before = Inside.everything(x);
            x.active();
            Inside.same("active()", x, before);
        }
    }

    private static void changesNoVoice() {
        for (Scene scene : Scene.all()) {
            VoiceAlloc x = scene.build();
            for (int i = 0; i < 9; i++) {
                x.active();
            }
            scene.check("active()", x);
        }
    }

    private static void sameAnswerOften() {
        for (Scene scene : Scene.all()) {
            VoiceAlloc x = scene.build();
            for (int i = 0; i < 300; i++) {
                Check.active(x, scene.sounding());
            }
        }
    }

    private static void upOnFreeVoice() {
        for (Scene scene : Scene.withFreeVoice()) {
            VoiceAlloc x = scene.build();
            for (int count = scene.sounding(); count < 4; count++) {
                Check.active(x, count);
                x.noteOn(0);
                Check.active(x, count + 1);
            }
        }
    }

    private static void sameOnSteal() {
        for (Scene scene : Scene.full()) {
            VoiceAlloc x = scene.build();
            for (int n = 0; n <= 127; n++) {
                x.noteOn(n);
                Check.active(x, 4);
            }
        }
    }

    private static void sameOnRejectedNoteOn() {
        for (Scene scene : Scene.all()) {
            VoiceAlloc x = scene.build();
            for (int bad : Check.NOT_NOTES) {
                x.noteOn(bad);
                Check.active(x, scene.sounding());
            }
        }
    }

    private static void sameOnRejectedNoteAt() {
        for (Scene scene : Scene.all()) {
            VoiceAlloc x = scene.build();
            for (int bad : Check.NOT_VOICES) {
                x.noteAt(bad);
                Check.active(x, scene.sounding());
            }
        }
    }

    private static void downOnFreed() {
        for (Scene scene : Scene.all()) {
            VoiceAlloc x = scene.build();
            int count = scene.sounding();
            for (int v : scene.order) {
                Check.active(x, count);
                x.noteOff(scene.notes[v]);
                count--;
                Check.active(x, count);
            }
        }
    }

    private static void sameOnInvalidNoteOff() {
        for (Scene scene : Scene.all()) {
            VoiceAlloc x = scene.build();
            for (int bad : Check.NOT_NOTES) {
                x.noteOff(bad);
                Check.active(x, scene.sounding());
            }
        }
    }

    private static void sameOnNothingFreed() {
        for (Scene scene : Scene.all()) {
            VoiceAlloc x = scene.build();
            for (int n = 0; n <= 127; n++) {
                if (scene.lowest(n) == -1) {
                    x.noteOff(n);
                    Check.active(x, scene.sounding());
                }
            }
        }
    }
}
