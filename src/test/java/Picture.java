import java.util.ArrayList;
import java.util.List;

/**
 * All that can be seen of a chute but status(), as lines: what is, what can be undone, the images, the rows, the tape.
 * To see some of it the chute is used up, so one whose picture was taken is not used again.
 */
final class Picture {
    private final LetterChute x;
    private final List<String> lines = new ArrayList<>();

    private Picture(LetterChute x) {
        this.x = x;
    }

    static List<String> of(LetterChute x) {
        Picture p = new Picture(x);
        p.whatIs();
        p.whatRowsHold();
        p.whatCanBeUndone();
        p.whatImagesKeep();
        p.howLongRowsAre();
        p.whatTheTapeHolds();
        return p.lines;
    }

    private void see(String call, long answer) {
        lines.add(call + " is " + answer);
    }

    private void whatIs() {
        see("fault", x.fault());
        for (int i = 0; i < 8; i++) {
            see("count " + i, x.count(i));
        }
        for (int i = 0; i < x.count(1); i++) {
            see("kind of " + i, x.kind(i));
            for (int what = 0; what < 7; what++) {
                see("letter " + i + ", " + what, x.letter(i, what));
            }
        }
        for (int f = 0; f < x.count(2); f++) {
            see("full of floor " + f, x.floor(f, 0));
        }
        for (int i = 0; i < 16; i++) {
            see("trace " + i, x.trace(i));
        }
        whereAllAre();
    }

    private void whereAllAre() {
        see("tick", x.count(3));
        for (int what = 1; what < 5; what++) {
            see("stand " + what, x.stand(what));
        }
    }

    private void whatRowsHold() {
        for (int row = 0; row < 8; row++) {
            see("row " + row + " by who", x.who(0, 3, row, 0, 12));
        }
        see("the end of row 7", x.who(0, 3, 7, 28, 12));
    }

    private void whatCanBeUndone() {
        for (int left = x.count(6); left > 0; left--) {
            see("undo", x.undo());
            whereAllAre();
        }
        see("undo of none", x.undo());
    }

    private void whatImagesKeep() {
        for (int k = 0; k < 2; k++) {
            see("restore " + k, x.restore(k));
            whereAllAre();
        }
    }

    private void howLongRowsAre() {
        for (int row = 0; row < 8; row++) {
            see("lane of row " + row, x.set(row, 0, 0x12348765));
            see("items of row " + row, x.drop(row));
        }
    }

    /** The scenes' tapes have the beginning of a house: the rest of it is told, and what is read is seen. */
    private void whatTheTapeHolds() {
        for (char c : "7;p2,4,3;".toCharArray()) {
            see("feed", x.feed(c));
        }
        see("house", x.house());
        see("fault of the tape", x.fault());
        see("floors by the tape", x.stand(0));
        whereAllAre();
    }
}
