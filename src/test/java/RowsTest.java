/** Promises 1 to 5, and 37, 38 as far as they tell of rows. */
public final class RowsTest {
    private static final int NULL = -1000011, PLACE = -1000012, SIZE = -1000014, STORE = -1000015;
    private static final Check CHECK = new Check();

    public static void main(String[] args) {
        aNewObject();
        rowsAreMade();
        itemsAreSet();
        itemsAreCopied();
        copiesAreRefused();
        rowsAreDropped();
        statusStaysOnRefusals();
        CHECK.end();
    }

    private static void aNewObject() {
        LetterChute x = new LetterChute();
        for (int what = 0; what <= 7; what++) {
            CHECK.due("count " + what + " of a new object", x.count(what), 0);
        }
        CHECK.due("fault of a new object", x.fault(), 0);
        CHECK.due("status of a new object", x.status(), 0);
        CHECK.due("stand of a new object", x.stand(0), LetterChute.STATE);
        CHECK.due("trace of a new object", x.trace(0), LetterChute.NONE);
    }

    private static void rowsAreMade() {
        LetterChute x = new LetterChute();
        CHECK.due("row of 0", x.row(0, 0, 0), 0);
        CHECK.due("row of 40", x.row(7, 2, 40), 40);
        CHECK.due("two rows", x.count(0), 2);
        CHECK.due("row 8", x.row(8, 0, 1), LetterChute.BAD);
        CHECK.due("row -1", x.row(-1, 0, 1), LetterChute.BAD);
        CHECK.due("lane 3", x.row(1, 3, 1), LetterChute.BAD);
        CHECK.due("lane -1", x.row(1, -1, 1), LetterChute.BAD);
        CHECK.due("41 items", x.row(1, 0, 41), LetterChute.BAD);
        CHECK.due("lane 3 of fewer than none", x.row(1, 3, -1), LetterChute.BAD);
        CHECK.due("fewer than none", x.row(7, 0, -1), SIZE);
        CHECK.due("far fewer than none", x.row(7, 0, Integer.MIN_VALUE), SIZE);
        CHECK.due("status of fewer than none", x.status(), 4);
        CHECK.due("still the row of 40", x.set(7, 39, 5), 5);
        CHECK.due("made anew", x.row(7, 2, 40), 40);
        Check.row(x, 6, 2, 1);
        CHECK.due("an item that is 0 again", x.copy(7, 39, 6, 0, 1), 1);
        CHECK.due("two rows and one", x.count(0), 3);
        Check.tell(x, "h3,2;c0,1,9;");
        CHECK.due("nothing lies anywhere yet: 0 fits", x.who(0, 3, 6, 0, 1), 19);
        CHECK.due("two items set", x.set(7, 0, 5) + x.set(7, 1, 5), 10);
        CHECK.due("made anew once more", x.row(7, 2, 40), 40);
        CHECK.due("both are 0 again", x.who(0, 3, 7, 0, 2), 19);
        CHECK.due("a shorter row", x.row(7, 2, 1), 1);
        CHECK.due("beyond the shorter row", x.set(7, 1, 0), PLACE);
    }

    private static void itemsAreSet() {
        LetterChute x = new LetterChute();
        x.row(0, 0, 2);
        x.row(1, 1, 2);
        x.row(2, 2, 2);
        CHECK.due("a byte", x.set(0, 0, 127), 127);
        CHECK.due("a byte cut", x.set(0, 0, 128), -128);
        CHECK.due("a byte cut to 0", x.set(0, 1, 256), 0);
        CHECK.due("a short", x.set(1, 0, 32767), 32767);
        CHECK.due("a short cut", x.set(1, 1, 98304), -32768);
        CHECK.due("an int", x.set(2, 1, Integer.MIN_VALUE), Integer.MIN_VALUE);
        CHECK.due("no such row", x.set(8, 0, 0), LetterChute.BAD);
        CHECK.due("a missing row", x.set(3, 0, 0), NULL);
        CHECK.due("status of a missing row", x.status(), 1);
        CHECK.due("place 2 of 2", x.set(2, 2, 0), PLACE);
        CHECK.due("place -1", x.set(2, -1, 0), PLACE);
        CHECK.due("a place far off", x.set(2, Integer.MAX_VALUE, 0), PLACE);
        CHECK.due("status of no place", x.status(), 2);
        CHECK.due("set again", x.set(2, 0, 9), 9);
        CHECK.due("status of what went well", x.status(), 0);
    }

    /** What a row holds is seen by who(): a card that stands in the shaft for a tick, then in the box. */
    private static int fits(LetterChute x, int row, int i) {
        return x.who(0, 3, row, i, 2) == 0 ? 0 : 1;
    }

    private static void itemsAreCopied() {
        LetterChute x = Check.chute("h3,9;c1,1,0;");
        Check.row(x, 0, 0, 0, 0, 1, 10);
        Check.row(x, 1, 0, 0, 0, 0, 0);
        CHECK.due("what fits lies at 2", fits(x, 0, 2), 1);
        CHECK.due("copied", x.copy(0, 2, 1, 1, 2), 2);
        CHECK.due("it lies at 1 there", fits(x, 1, 1), 1);
        CHECK.due("not at 0 there", fits(x, 1, 0), 0);
        CHECK.due("it still lies at 2 here", fits(x, 0, 2), 1);
        Check.row(x, 2, 2, 1, 10, 7, 7);
        CHECK.due("copied up within a row, as it was ahead", x.copy(2, 0, 2, 1, 3), 3);
        CHECK.due("it lies at 1 now", fits(x, 2, 1), 1);
        Check.row(x, 2, 2, 7, 1, 10, 7);
        CHECK.due("copied down within a row, as it was ahead", x.copy(2, 1, 2, 0, 3), 3);
        CHECK.due("it lies at 0 now", fits(x, 2, 0), 1);
        CHECK.due("none copied, at the ends", x.copy(0, 4, 1, 4, 0), 0);
    }

    private static void copiesAreRefused() {
        LetterChute x = new LetterChute();
        x.row(0, 0, 4);
        x.row(1, 0, 3);
        x.row(2, 1, 3);
        CHECK.due("from row 8", x.copy(8, 0, 0, 0, 0), LetterChute.BAD);
        CHECK.due("to row -1", x.copy(0, 0, -1, 0, 0), LetterChute.BAD);
        CHECK.due("from a missing row", x.copy(3, 0, 2, 9, 0), NULL);
        CHECK.due("to a missing row", x.copy(0, 0, 3, 0, 0), NULL);
        CHECK.due("of two lanes, no such place either", x.copy(0, -1, 2, 0, 9), STORE);
        CHECK.due("status of two lanes", x.status(), 5);
        CHECK.due("of two lanes, none", x.copy(0, 0, 2, 0, 0), STORE);
        CHECK.due("i below 0", x.copy(0, -1, 1, 0, 1), PLACE);
        CHECK.due("j below 0", x.copy(0, 0, 1, -1, 1), PLACE);
        CHECK.due("n below 0", x.copy(0, 0, 1, 0, -1), PLACE);
        CHECK.due("beyond the end of a", x.copy(0, 2, 1, 0, 3), PLACE);
        CHECK.due("beyond the end of b", x.copy(0, 0, 1, 0, 4), PLACE);
        CHECK.due("far beyond", x.copy(0, Integer.MAX_VALUE, 1, 0, Integer.MAX_VALUE), PLACE);
        CHECK.due("none, beyond the end", x.copy(0, 5, 1, 0, 0), PLACE);
        CHECK.due("status of no place", x.status(), 2);
    }

    private static void rowsAreDropped() {
        LetterChute x = new LetterChute();
        x.row(5, 1, 17);
        CHECK.due("dropped", x.drop(5), 17);
        CHECK.due("it is missing", x.count(0), 0);
        CHECK.due("dropped again", x.drop(5), NULL);
        CHECK.due("status of a missing one", x.status(), 1);
        CHECK.due("set of a missing one", x.set(5, 0, 1), NULL);
        CHECK.due("drop of row 8", x.drop(8), LetterChute.BAD);
        CHECK.due("drop of row -1", x.drop(-1), LetterChute.BAD);
    }

    private static void statusStaysOnRefusals() {
        LetterChute x = Check.chute("h3,9;c1,1,0;");
        CHECK.due("a finding", x.drop(0), NULL);
        CHECK.due("a BAD one", x.drop(8), LetterChute.BAD);
        CHECK.due("a BAD who", x.who(0, 5, 0, 0, 1), LetterChute.BAD);
        CHECK.due("a BAD as", x.as(0, 6), LetterChute.BAD);
        CHECK.due("a call without a row", x.ticks(1), 0);
        CHECK.due("status is that of the finding", x.status(), 1);
        CHECK.due("as of a card", x.as(0, 1), 0);
        CHECK.due("status of as", x.status(), 0);
        CHECK.due("as of no parcel", x.as(0, 4), -1000013);
        CHECK.due("status of no parcel", x.status(), 3);
        x.row(0, 0, 1);
        CHECK.due("status of row", x.status(), 0);
        CHECK.due("who of a missing row", x.who(0, 0, 1, 0, 1), NULL);
        CHECK.due("status of who", x.status(), 1);
        CHECK.due("who beyond the end", x.who(0, 0, 0, 0, 2), PLACE);
        CHECK.due("status of who beyond", x.status(), 2);
        CHECK.due("who", x.who(0, 0, 0, 0, 1), 0);
        CHECK.due("status of who that went well", x.status(), 0);
    }
}
