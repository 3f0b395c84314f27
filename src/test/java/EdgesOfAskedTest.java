/** The edges of promises 33 to 37, of what is asked: one method for each sentence. */
public final class EdgesOfAskedTest {
    private static final int BAD = Edge.BAD, NONE = Edge.NONE, KIND = Edge.KIND;
    private static final Edge EDGE = new Edge();

    public static void main(String[] args) {
        thereIsNoSuchLetterWithoutAHouse();
        lettersGoAsFarAsTheyWereTold();
        kindsAreAsTold();
        kindsGoFrom0To5();
        asOfNoSuchKind();
        asksAre0And1();
        theTraceIsEmptyAheadOfAnAsk();
        theTraceOfARefusedAsk();
        theTraceBeyondItsEnds();
        askChangesNothingButTheTrace();
        askSeesStuck();
        countsGoFrom0To7();
        countsOfAnEmptyAndAFullChute();
        EDGE.end();
    }

    /** Promises 33 to 35: "BAD": no letter is there. */
    private static void thereIsNoSuchLetterWithoutAHouse() {
        EDGE.refused("kind, no house", Scenes::noHouse, x -> x.kind(0), BAD);
        EDGE.refused("as, no house", Scenes::noHouse, x -> x.as(0, 0), BAD);
        EDGE.refused("ask, no house", Scenes::noHouse, x -> x.ask(0, 0), BAD);
    }

    /** Promises 33 to 35: a LETTER there is, of six and of one. */
    private static void lettersGoAsFarAsTheyWereTold() {
        Edge.Scene one = () -> Check.chute("h3,9;c0,1,0;");
        EDGE.bounds("kind of LETTER", Scenes::busy, 0, 5, (x, v) -> x.kind(v));
        EDGE.bounds("as of LETTER", Scenes::busy, 0, 5, (x, v) -> x.as(v, 0));
        EDGE.bounds("ask of LETTER", Scenes::busy, 0, 5, (x, v) -> x.ask(v, 0));
        EDGE.bounds("kind of the only LETTER", one, 0, 0, (x, v) -> x.kind(v));
        EDGE.bounds("as of the only LETTER", one, 0, 0, (x, v) -> x.as(v, 0));
        EDGE.bounds("ask of the only LETTER", one, 0, 0, (x, v) -> x.ask(v, 0));
    }

    /** Promise 33: "The KIND of a LETTER, as told (1 to 5)", wherever it is. */
    private static void kindsAreAsTold() {
        int[] kinds = {1, 2, 3, 4, 5, 1};
        for (int i = 0; i < 6; i++) {
            int letter = i;
            EDGE.asked("kind of " + i, Scenes::busy, x -> x.kind(letter), kinds[i]);
        }
    }

    /** Promise 34: "one of a KIND (0 .. 5)". */
    private static void kindsGoFrom0To5() {
        EDGE.bounds("as of KIND", Scenes::busy, 0, 5, (x, v) -> x.as(4, v));
        EDGE.refused("no letter as no kind", Scenes::busy, x -> x.as(6, 6), BAD);
        EDGE.refused("a letter as kind 6, no such one either", Scenes::busy, x -> x.as(0, 6), BAD);
        int[][] are = {{0, 1}, {0, 1, 2}, {0, 1, 3}, {0, 4}, {0, 4, 5}, {0, 1}};
        for (int i = 0; i < 6; i++) {
            for (int kind : are[i]) {
                int letter = i;
                EDGE.asked(i + " as " + kind, Scenes::busy, x -> x.as(letter, kind), i);
                LetterChute x = Scenes.busy();
                x.as(i, kind);
                EDGE.due("status of " + i + " as " + kind, x.status(), 0);
            }
        }
    }

    /** Promise 34: "KIND: it is no such one". */
    private static void asOfNoSuchKind() {
        int[][] areNot = {{2, 3, 4, 5}, {3, 4, 5}, {2, 4, 5}, {1, 2, 3, 5}, {1, 2, 3}, {2, 3, 4, 5}};
        for (int i = 0; i < 6; i++) {
            for (int kind : areNot[i]) {
                int letter = i;
                EDGE.found(i + " as " + kind, Scenes::busy, x -> x.as(letter, kind), KIND);
            }
        }
    }

    /** Promise 35: "An ASK (0, 1)". */
    private static void asksAre0And1() {
        EDGE.bounds("ask of what", Scenes::busy, 0, 1, (x, v) -> x.ask(0, v));
    }

    private static void trace(String name, LetterChute x, int... bodies) {
        for (int i = 0; i < bodies.length; i++) {
            EDGE.due("trace " + i + " of " + name, x.trace(i), bodies[i]);
        }
        for (int i = bodies.length; i <= 17; i++) {
            EDGE.due("trace " + i + " of " + name, x.trace(i), NONE);
        }
    }

    /** Promise 35: "THE TRACE is empty ahead of it": nothing is left of a longer one. */
    private static void theTraceIsEmptyAheadOfAnAsk() {
        LetterChute x = Scenes.busy();
        trace("the longest", x, 12, 11, 10, 24, 21, 20);
        x.ask(0, 1);
        trace("the shortest", x, 21, 20);
        x.ask(3, 0);
        trace("a parcel's size", x, 13, 10);
        x.ask(3, 0);
        trace("the same again", x, 13, 10);
        x.ask(4, 1);
        trace("a roll's mark", x, 23, 20, 14, 13, 10);
    }

    /** Terms: "What is refused .. changes nothing". */
    private static void theTraceOfARefusedAsk() {
        LetterChute x = Scenes.busy();
        x.ask(6, 0);
        x.ask(-1, 1);
        x.ask(0, 2);
        x.ask(0, -1);
        trace("the ask ahead of those refused", x, 12, 11, 10, 24, 21, 20);
    }

    /** Promise 36: "NONE". */
    private static void theTraceBeyondItsEnds() {
        for (int i : new int[] {Edge.LEAST, -1, 0, 15, 16, Edge.MOST}) {
            EDGE.asked("trace " + i + " of a new object", LetterChute::new, x -> x.trace(i), NONE);
            EDGE.asked("trace " + i + ", no house", Scenes::noHouse, x -> x.trace(i), NONE);
        }
        for (int i : new int[] {Edge.LEAST, -1, 6, 7, 15, 16, Edge.MOST}) {
            EDGE.asked("trace " + i + " of six", Scenes::busy, x -> x.trace(i), NONE);
        }
        EDGE.asked("trace 0 of six", Scenes::busy, x -> x.trace(0), 12);
        EDGE.asked("trace 5 of six", Scenes::busy, x -> x.trace(5), 20);
    }

    /** The scene's own ask again: the trace is as it was, and so is all else. */
    private static void askChangesNothingButTheTrace() {
        EDGE.asked("size of the slip", Scenes::busy, x -> x.ask(1, 0), -11);
        LetterChute x = Scenes.busy();
        x.ask(1, 0);
        EDGE.due("status stays", x.status(), Edge.PLACE);
        x.undo();
        trace("the trace is no part of a house: behind undo", x, 12, 11, 10, 24, 21, 20);
        x.restore(0);
        trace("behind restore", x, 12, 11, 10, 24, 21, 20);
    }

    /** STUCK from 0 up to 998, as far as TICKS go. */
    private static void askSeesStuck() {
        LetterChute x = Scenes.stuckAt(1);
        EDGE.due("mark, stuck 0", x.ask(0, 1), 0);
        EDGE.due("size, stuck 0", x.ask(0, 0), 9);
        LetterChute y = Scenes.stuckAt(999);
        EDGE.due("mark, stuck 998", y.ask(0, 1), 998);
        EDGE.due("size, stuck 998", y.ask(0, 0), 1007);
        int[] sizes = {7, -11, 3 + 2 + 3 - 1000, -95, -196, 11};
        int[] marks = {3, 2, 2 + 3 - 1000, 98, 200, 5};
        LetterChute z = Scenes.busy();
        for (int i = 0; i < 6; i++) {
            EDGE.due("size of " + i, z.ask(i, 0), sizes[i]);
            EDGE.due("mark of " + i, z.ask(i, 1), marks[i]);
        }
    }

    /** Promise 37: what 0 to 7. */
    private static void countsGoFrom0To7() {
        EDGE.bounds("count", Scenes::busy, 0, 7, (x, v) -> x.count(v));
        EDGE.bounds("count, no house", Scenes::noHouse, 0, 7, (x, v) -> x.count(v));
        int[] busy = {5, 6, 6, 5, 1, 9, 9, 3};
        int[] noHouse = {5, 0, 0, 0, 0, 0, 0, 3};
        for (int what = 0; what <= 7; what++) {
            int w = what;
            EDGE.asked("count " + what, Scenes::busy, x -> x.count(w), busy[what]);
            EDGE.asked("count " + what + ", no house", Scenes::noHouse, x -> x.count(w), noHouse[what]);
        }
    }

    private static void countsOfAnEmptyAndAFullChute() {
        LetterChute x = new LetterChute();
        for (int what = 0; what <= 7; what++) {
            EDGE.due("count " + what + " of a new object", x.count(what), 0);
        }
        LetterChute y = Check.chute("h9,20;s8,1,0;s8,1,0;s8,1,0;s8,1,0;s8,1,0;s8,1,0;");
        for (int row = 0; row < 8; row++) {
            y.row(row, 0, 40);
        }
        y.ticks(24);
        y.ticks(1);
        for (int i = 0; i < 100; i++) {
            y.feed('h');
        }
        int[] full = {8, 6, 9, 25, 6, 0, 24, 100};
        for (int what = 0; what <= 7; what++) {
            EDGE.due("count " + what + " of a full one", y.count(what), full[what]);
        }
        LetterChute z = Check.chute("h3,20;c2,3,0;c2,3,0;c2,3,0;c2,3,0;c2,3,0;c2,3,0;");
        z.ticks(1);
        z.wide(2);
        z.ticks(24);
        EDGE.due("stuck of all, six letters", z.count(5), 144);
    }
}
