/** The section "What it is", but for the clock (ClockTest, LongClockTest) and the face (PublicFaceTest). */
public final class WhatItIsTest {
    public static void main(String[] args) {
        Check.sentence("exactly 4 voices, numbered 0, 1, 2 and 3", WhatItIsTest::fourVoices);
        Check.sentence("a sounding voice holds one note, from 0 to 127", WhatItIsTest::oneNoteEach);
        Check.sentence("of two sounding voices, exactly one started earlier", WhatItIsTest::startsAreOrdered);
        Check.sentence("no voice free: the earliest is stolen and takes the note", WhatItIsTest::earliestIsStolen);
        Check.sentence("stolen: its old note is forgotten", WhatItIsTest::oldNoteIsForgotten);
        Check.end();
    }

    private static void fourVoices() {
        VoiceAlloc x = new VoiceAlloc();
        for (int v = 0; v < 4; v++) {
            Check.on(x, 60 + v, v);
        }
        Check.voices("four notes", x, 60, 61, 62, 63);
        Check.at(x, -1, -2);
        Check.at(x, 4, -2);
        Check.on(x, 64, 0);
        Check.active(x, 4);
        Check.at(x, 4, -2);
    }

    private static void oneNoteEach() {
        for (int n = 0; n <= 127; n++) {
            VoiceAlloc x = Check.started(n, 127 - n);
            Check.voices("two notes", x, n, 127 - n, -1, -1);
        }
    }

    /** Four steals one after the other take four voices, each once, in the order of their starts. */
    private static void startsAreOrdered() {
        for (Scene scene : Scene.all()) {
            scene.check("built", scene.build());
        }
    }

    private static void earliestIsStolen() {
        for (Scene scene : Scene.full()) {
            VoiceAlloc x = scene.build();
            Check.on(x, 50, scene.order[0]);
            Check.at(x, scene.order[0], 50);
        }
    }

    private static void oldNoteIsForgotten() {
        VoiceAlloc x = Check.started(40, 41, 42, 43, 44);
        Check.off(x, 40, -1);
        Check.voices("the old note released", x, 44, 41, 42, 43);
    }
}
