/** Chutes made ready for an edge, each time anew and alike. */
final class Scenes {
    private static final int[] WHAT_COMES = {14, 41, 41, 50, 50, 50, 50, 50, 50, 50, 50, 50};

    private Scenes() {
    }

    /** No house; else as much as there can be without one: rows, a fault, a tape, a finding. */
    static LetterChute noHouse() {
        LetterChute x = new LetterChute();
        Check.tell(x, "h3,1;");
        rows(x);
        Check.feed(x, "h4,");
        x.set(0, 12, 0);
        return x;
    }

    /**
     * Tick 5 of six letters of all kinds: 0, 2 and 3 in the shaft, stuck thrice each, at floors 2, 3 and 1; 1 in the box;
     * 4 and 5 wait. Nine acts, image 0, rows 0 to 3 and 7, a fault, a trace, a tape, a finding (2).
     */
    static LetterChute busy() {
        LetterChute x = new LetterChute();
        Check.tell(x, "h3,1;");
        Check.tell(x, "h6,7;c5,4,0;s4,9,1;l5,3,0;p2,5,0;r1,2,0;c3,6,20;");
        x.ticks(2);
        x.image(0);
        x.poke(0);
        x.wide(4);
        x.ticks(3);
        x.post(4, 5);
        x.wide(8);
        x.ask(1, 0);
        rows(x);
        Check.feed(x, "h4,");
        x.set(0, 12, 0);
        return x;
    }

    /** As busy, but for the tape, which is empty. */
    static LetterChute busyWithoutTape() {
        LetterChute x = busy();
        x.house();
        Check.tell(x, "h3,1;");
        return x;
    }

    /** Rows 0 to 2, one of each lane, tell what comes in the busy scene; 3 has no items; 7 has 40 of 0. */
    private static void rows(LetterChute x) {
        for (int row = 0; row < 3; row++) {
            Check.row(x, row, row, WHAT_COMES);
        }
        x.row(3, 1, 0);
        x.row(7, 2, 40);
    }

    /** A card too thick to fall, at a tick from 1 to 999. */
    static LetterChute stuckAt(int tick) {
        LetterChute x = Check.chute("h3,9;c2,9,0;");
        x.ticks(1);
        x.wide(2);
        int left = tick - 1;
        while (left > 0) {
            int n = Math.min(24, left);
            x.ticks(n);
            left -= n;
        }
        return x;
    }

    /** A tape of so many bytes, all of them h. */
    static LetterChute tapeOf(int bytes) {
        LetterChute x = new LetterChute();
        for (int i = 0; i < bytes; i++) {
            x.feed('h');
        }
        return x;
    }
}
