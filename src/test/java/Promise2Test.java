/** Promise 2: noteOn. */
public final class Promise2Test {
    private static final int[] EDGE_NOTES = {0, 5, 7, 9, 64, 127};

    public static void main(String[] args) {
        invalidNote();
        validNote();
        consequencesAndEdges();
        Check.end();
    }

    private static void invalidNote() {
        Check.sentence("n < 0: answers -2", () -> answersMinusTwo(Check.TOO_SMALL));
        Check.sentence("n > 127: answers -2", () -> answersMinusTwo(Check.NOTE_TOO_LARGE));
        Check.sentence("-1 answers -2", () -> answersMinusTwo(-1));
        Check.sentence("128 answers -2", () -> answersMinusTwo(128));
        Check.sentence("Integer.MIN_VALUE answers -2", () -> answersMinusTwo(Integer.MIN_VALUE));
        Check.sentence("Integer.MAX_VALUE answers -2", () -> answersMinusTwo(Integer.MAX_VALUE));
        Check.sentence("every n outside 0..127 answers -2", Promise2Test::everyInvalidNote);
        Check.sentence("invalid: no voice changes its note or status", Promise2Test::invalidLeavesVoices);
        Check.sentence("invalid: no start time changes", Promise2Test::invalidLeavesStarts);
        Check.sentence("invalid: the clock does not move", Promise2Test::invalidLeavesClock);
        Check.sentence("invalid: changes nothing", Promise2Test::invalidLeavesEverything);
        Check.sentence("invalid: does not count as accepted", Promise2Test::invalidIsNotAccepted);
    }

    private static void validNote() {
        Check.sentence("0 is valid", () -> isAccepted(0));
        Check.sentence("127 is valid", () -> isAccepted(127));
        Check.sentence("0 <= n <= 127: accepted", Promise2Test::everyNoteIsAccepted);
        Check.sentence("some voice free: the lowest free one is chosen", Promise2Test::lowestFreeIsChosen);
        Check.sentence("one voice free, the highest: it is chosen", Promise2Test::onlyFreeVoiceIsChosen);
        Check.sentence("all 4 sounding: the earliest is chosen", Promise2Test::earliestIsChosen);
        Check.sentence("stolen: no trace of the old note remains", Promise2Test::noTraceOfStolenNote);
        Check.sentence("the chosen voice now holds n", Promise2Test::chosenHoldsNote);
        Check.sentence("the chosen voice is later than every start before", Promise2Test::chosenIsLatest);
        Check.sentence("the clock goes up by one", Promise2Test::clockGoesUpByOne);
        Check.sentence("the answer is the chosen voice's number", Promise2Test::answerIsTheVoice);
    }

    private static void consequencesAndEdges() {
        Check.sentence("some voice free: sounding voices are untouched", Promise2Test::soundingStayWhenOneIsFree);
        Check.sentence("no voice free: active() stays 4", Promise2Test::fullStaysFour);
        Check.sentence("no voice free: exactly the earliest changes its note", Promise2Test::oneNoteChangesOnSteal);
        Check.sentence("no voice free: the stolen voice becomes the latest", Promise2Test::stolenIsLatest);
        Check.sentence("no voice free: the other three keep their starts", Promise2Test::otherThreeKeepStarts);
        Check.sentence("a freed voice, chosen again, starts anew", Promise2Test::reusedVoiceStartsAnew);
        Check.sentence("the same note may sound on several voices", Promise2Test::sameNoteSeveralTimes);
        Check.sentence("noteOn(n) never looks for a holder of n: free voices", Promise2Test::holderIsNoMatterWhenFree);
        Check.sentence("noteOn(n) never looks for a holder of n: all sound", Promise2Test::holderIsNoMatterWhenFull);
        Check.sentence("the stolen voice holds n already: n is still held", Promise2Test::stolenHolderHoldsStill);
        Check.sentence("the stolen voice holds n already: becomes the latest", Promise2Test::stolenHolderIsLatest);
        Check.sentence("active() goes up by one if a free voice was chosen", Promise2Test::activeGoesUp);
        Check.sentence("active() stays 4 if a voice was stolen", Promise2Test::activeStays);
        Check.sentence("only the chosen voice changes", Promise2Test::onlyChosenChanges);
    }

    private static void answersMinusTwo(int... bad) {
        for (Scene scene : Scene.all()) {
            VoiceAlloc x = scene.build();
            for (int n : bad) {
                Check.on(x, n, -2);
            }
        }
    }

    private static void everyInvalidNote() {
        VoiceAlloc none = new VoiceAlloc();
        VoiceAlloc all = Check.started(1, 2, 3, 4);
        for (int n : Check.widelyOutside(0, 127)) {
            Check.on(none, n, -2);
            Check.on(all, n, -2);
        }
        Check.voices("all free", none, -1, -1, -1, -1);
        Check.voices("all sounding", all, 1, 2, 3, 4);
    }

    private static void invalidLeavesVoices() {
        for (Scene scene : Scene.all()) {
            VoiceAlloc x = scene.build();
            for (int bad : Check.NOT_NOTES) {
                x.noteOn(bad);
                Check.voices("noteOn(" + bad + ")", x, scene.notes);
            }
        }
    }

    private static void invalidLeavesStarts() {
        for (Scene scene : Scene.all()) {
            for (int bad : Check.NOT_NOTES) {
                VoiceAlloc x = scene.build();
                x.noteOn(bad);
                scene.check("noteOn(" + bad + ")", x);
            }
        }
    }

    private static void invalidLeavesClock() {
        for (Scene scene : Scene.all()) {
            VoiceAlloc x = scene.build();
            long before = Inside.clock(x);
            for (int bad : Check.NOT_NOTES) {
                x.noteOn(bad);
                Check.due("the clock after noteOn(" + bad + ")", Inside.clock(x), before);
            }
        }
    }

    private static void invalidLeavesEverything() {
        for (Scene scene : Scene.all()) {
            VoiceAlloc x = scene.build();
            String before = Inside.everything(x);
            for (int bad : Check.NOT_NOTES) {
                x.noteOn(bad);
                Inside.same("noteOn(" + bad + ")", x, before);
            }
        }
    }

    /** Between accepted notes, the voices go on as if the invalid ones had not been. */
    private static void invalidIsNotAccepted() {
        VoiceAlloc x = new VoiceAlloc();
        for (int i = 0; i < 24; i++) {
            for (int bad : Check.NOT_NOTES) {
                Check.on(x, bad, -2);
            }
            Check.on(x, i, i % 4);
        }
    }

    private static void isAccepted(int n) {
        VoiceAlloc x = new VoiceAlloc();
        for (int i = 0; i < 9; i++) {
            Check.on(x, n, i % 4);
            Check.at(x, i % 4, n);
        }
    }

    private static void everyNoteIsAccepted() {
        for (int n = 0; n <= 127; n++) {
            isAccepted(n);
        }
    }

    private static void lowestFreeIsChosen() {
        for (Scene scene : Scene.withFreeVoice()) {
            Check.on(scene.build(), 50, scene.lowestFree());
        }
    }

    private static void onlyFreeVoiceIsChosen() {
        VoiceAlloc x = Check.started(1, 2, 3, 4);
        Check.off(x, 4, 3);
        Check.on(x, 5, 3);
        Check.voices("the latest voice freed", x, 1, 2, 3, 5);
    }

    private static void earliestIsChosen() {
        for (Scene scene : Scene.full()) {
            Check.on(scene.build(), 50, scene.order[0]);
        }
    }

    private static void noTraceOfStolenNote() {
        VoiceAlloc x = Check.started(40, 41, 42, 43, 44);
        Check.off(x, 40, -1);
        Check.off(x, 44, 0);
        Check.voices("the thief freed", x, -1, 41, 42, 43);
        Check.off(x, 40, -1);
        Check.on(x, 45, 0);
        Check.off(x, 40, -1);
    }

    private static void chosenHoldsNote() {
        for (Scene scene : Scene.all()) {
            for (int n : EDGE_NOTES) {
                VoiceAlloc x = scene.build();
                x.noteOn(n);
                Check.at(x, chosen(scene), n);
            }
        }
    }

    /** All that sounded before is stolen before the voice that just started. */
    private static void chosenIsLatest() {
        for (Scene scene : Scene.all()) {
            for (int n : EDGE_NOTES) {
                VoiceAlloc x = scene.build();
                x.noteOn(n);
                scene.started(chosen(scene), n).check("noteOn(" + n + ")", x);
            }
        }
    }

    private static void clockGoesUpByOne() {
        for (Scene scene : Scene.all()) {
            VoiceAlloc x = scene.build();
            long before = Inside.clock(x);
            for (int i = 0; i < EDGE_NOTES.length; i++) {
                x.noteOn(EDGE_NOTES[i]);
                Check.due("the clock", Inside.clock(x), before + i + 1);
            }
        }
    }

    private static void answerIsTheVoice() {
        for (Scene scene : Scene.all()) {
            for (int n : EDGE_NOTES) {
                Check.on(scene.build(), n, chosen(scene));
            }
        }
    }

    private static void soundingStayWhenOneIsFree() {
        for (Scene scene : Scene.withFreeVoice()) {
            for (int n : EDGE_NOTES) {
                VoiceAlloc x = scene.build();
                x.noteOn(n);
                for (int v : scene.order) {
                    Check.at(x, v, scene.notes[v]);
                }
                scene.started(scene.lowestFree(), n).check("noteOn(" + n + ")", x);
            }
        }
    }

    private static void fullStaysFour() {
        for (Scene scene : Scene.full()) {
            VoiceAlloc x = scene.build();
            for (int i = 0; i < 8; i++) {
                x.noteOn(i);
                Check.active(x, 4);
            }
        }
    }

    private static void oneNoteChangesOnSteal() {
        for (Scene scene : Scene.full()) {
            VoiceAlloc x = scene.build();
            x.noteOn(50);
            for (int v = 0; v < 4; v++) {
                Check.at(x, v, v == scene.order[0] ? 50 : scene.notes[v]);
            }
        }
    }

    private static void stolenIsLatest() {
        for (Scene scene : Scene.full()) {
            VoiceAlloc x = scene.build();
            for (int i = 0; i < 12; i++) {
                Check.on(x, 50 + i, scene.order[i % 4]);
            }
        }
    }

    private static void otherThreeKeepStarts() {
        for (Scene scene : Scene.full()) {
            VoiceAlloc x = scene.build();
            x.noteOn(50);
            Check.on(x, 51, scene.order[1]);
            Check.on(x, 52, scene.order[2]);
            Check.on(x, 53, scene.order[3]);
        }
    }

    private static void reusedVoiceStartsAnew() {
        VoiceAlloc x = Check.started(1, 2, 3, 4);
        Check.off(x, 1, 0);
        Check.on(x, 5, 0);
        Check.on(x, 6, 1);
        Check.on(x, 7, 2);
        Check.on(x, 8, 3);
        Check.on(x, 9, 0);
        Check.voices("reused", x, 9, 6, 7, 8);
    }

    private static void sameNoteSeveralTimes() {
        VoiceAlloc x = new VoiceAlloc();
        for (int i = 0; i < 4; i++) {
            Check.on(x, 0, i);
        }
        Check.voices("one note on all voices", x, 0, 0, 0, 0);
    }

    private static void holderIsNoMatterWhenFree() {
        VoiceAlloc x = Check.started(1, 2);
        Check.on(x, 2, 2);
        Check.on(x, 1, 3);
        Check.voices("each note twice", x, 1, 2, 2, 1);
    }

    private static void holderIsNoMatterWhenFull() {
        VoiceAlloc x = Check.started(1, 2, 3, 4);
        Check.on(x, 3, 0);
        Check.voices("the note sounds elsewhere", x, 3, 2, 3, 4);
        Check.on(x, 4, 1);
        Check.on(x, 9, 2);
        Check.on(x, 9, 3);
        Check.voices("the older holders are stolen in their turn", x, 3, 4, 9, 9);
    }

    private static void stolenHolderHoldsStill() {
        for (Scene scene : Scene.full()) {
            VoiceAlloc x = scene.build();
            int earliest = scene.order[0];
            Check.on(x, scene.notes[earliest], earliest);
            Check.voices("its own note again", x, scene.notes);
        }
    }

    private static void stolenHolderIsLatest() {
        for (Scene scene : Scene.full()) {
            VoiceAlloc x = scene.build();
            int earliest = scene.order[0];
            x.noteOn(scene.notes[earliest]);
            scene.started(earliest, scene.notes[earliest]).check("its own note again", x);
        }
    }

    private static void activeGoesUp() {
        for (Scene scene : Scene.withFreeVoice()) {
            VoiceAlloc x = scene.build();
            for (int count = scene.sounding() + 1; count <= 4; count++) {
                x.noteOn(7);
                Check.active(x, count);
            }
        }
    }

    private static void activeStays() {
        for (Scene scene : Scene.full()) {
            VoiceAlloc x = scene.build();
            x.noteOn(7);
            Check.active(x, 4);
        }
    }

    private static void onlyChosenChanges() {
        for (Scene scene : Scene.all()) {
            for (int n : EDGE_NOTES) {
                VoiceAlloc x = scene.build();
                int chosen = x.noteOn(n);
                for (int v = 0; v < 4; v++) {
                    if (v != chosen) {
                        Check.at(x, v, scene.notes[v]);
                    }
                }
                scene.started(chosen, n).check("noteOn(" + n + ")", x);
            }
        }
    }

    private static int chosen(Scene scene) {
        return scene.sounding() == 4 ? scene.order[0] : scene.lowestFree();
    }
}
