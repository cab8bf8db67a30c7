/** Promise 1: construction and starting state. */
public final class Promise1Test {
    public static void main(String[] args) {
        startsFree();
        startsWithNoNoteSounding();
        firstNotesTakeTheVoicesInOrder();
        instancesAreIndependent();
        Check.end();
    }

    private static void startsFree() {
        VoiceAlloc x = new VoiceAlloc();
        Check.due("active() of a new object", x.active(), 0);
        Check.voices("new object", x, -1, -1, -1, -1);
        for (int v : Check.NOT_VOICES) {
            Check.due("new object: noteAt(" + v + ")", x.noteAt(v), -2);
        }
    }

    private static void startsWithNoNoteSounding() {
        VoiceAlloc x = new VoiceAlloc();
        for (int n = -2; n <= 129; n++) {
            Check.off(x, n, -1);
        }
        Check.voices("noteOff on a new object", x, -1, -1, -1, -1);
    }

    private static void firstNotesTakeTheVoicesInOrder() {
        VoiceAlloc x = new VoiceAlloc();
        for (int i = 0; i < 12; i++) {
            Check.on(x, i, i % 4);
        }
    }

    private static void instancesAreIndependent() {
        VoiceAlloc x = new VoiceAlloc();
        VoiceAlloc y = new VoiceAlloc();
        Check.on(x, 60, 0);
        Check.voices("after a call on another object", y, -1, -1, -1, -1);
        Check.on(y, 61, 0);
        Check.on(y, 62, 1);
        Check.voices("first object", x, 60, -1, -1, -1);
        Check.off(x, 61, -1);
        Check.off(x, 60, 0);
        Check.voices("second object", y, 61, 62, -1, -1);

        // The order of starts is each object's own as well.
        VoiceAlloc p = Check.started(1, 2, 3, 4);
        VoiceAlloc q = Check.started(5, 6, 7, 8, 9);
        Check.on(p, 10, 0);
        Check.on(q, 11, 1);
        Check.on(p, 12, 1);
        Check.voices("p", p, 10, 12, 3, 4);
        Check.voices("q", q, 9, 11, 7, 8);
        Check.voices("a third, made late", new VoiceAlloc(), -1, -1, -1, -1);
    }
}
