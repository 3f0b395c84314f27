/** The edges of promises 1 to 5, and of 28 and 38 as far as they tell of rows: one method for each sentence. */
public final class EdgesOfRowsTest {
    private static final int BAD = Edge.BAD, NULL = Edge.NULL, PLACE = Edge.PLACE, SIZE = Edge.SIZE, STORE = Edge.STORE;
    private static final int LEAST = Edge.LEAST, MOST = Edge.MOST;
    private static final Edge EDGE = new Edge();

    public static void main(String[] args) {
        aNewObjectHasNoHouse();
        rowsAreMissingAtFirst();
        rowsGoFrom0To7();
        lanesGoFrom0To2();
        aRowHas40ItemsAtMost();
        fewerThanNoneIsSize();
        badComesAheadOfSize();
        itemsAre0AtFirst();
        aRowComesInPlaceOfWhatIsThere();
        anItemHasAsManyBitsAsItsLane();
        setOfAMissingRow();
        setBeyondTheEnds();
        setOfAnEmptyRow();
        copyOfNoSuchRow();
        copyOfAMissingRow();
        copyOfTwoLanes();
        copyBeyondAnEnd();
        copyOfNone();
        copyOfAll();
        copyAsTheyWereAhead();
        dropOfAMissingRow();
        dropTellsHowManyItemsItHad();
        statusIsOfTheLatestCallWithARow();
        statusIsNotOfOtherCalls();
        EDGE.end();
    }

    /** Nothing but a house makes letters and floors: its letter waits for more than 12 ticks, so that rows of 0 fit. */
    private static LetterChute quiet() {
        return Check.chute("h3,9;c1,1,20;");
    }

    /** Whether n items from i on are all 0, of a row of a quiet chute. */
    private static boolean areZero(LetterChute x, int row, int i, int n) {
        return x.who(0, 3, row, i, n) == 19;
    }

    /** Promise 1: "No HOUSE." */
    private static void aNewObjectHasNoHouse() {
        LetterChute x = new LetterChute();
        for (int what = 0; what <= 7; what++) {
            EDGE.due("count of a new object, " + what, x.count(what), 0);
        }
        EDGE.due("fault of a new object", x.fault(), 0);
        EDGE.due("status of a new object", x.status(), 0);
        EDGE.due("trace of a new object", x.trace(0), Edge.NONE);
        EDGE.due("stand of a new object", x.stand(0), Edge.STATE);
        EDGE.due("letter of a new object", x.letter(0, 0), BAD);
        EDGE.due("floor of a new object", x.floor(0, 0), BAD);
        EDGE.due("undo of a new object", x.undo(), Edge.STATE);
        EDGE.due("restore of a new object", x.restore(0), Edge.STATE);
    }

    /** Terms: "ROWS 0 .. 7 are missing (at first)". */
    private static void rowsAreMissingAtFirst() {
        for (int row = 0; row <= 7; row++) {
            int r = row;
            EDGE.found("set of row " + r + " of a new object", LetterChute::new, x -> x.set(r, 0, 1), NULL);
            EDGE.found("copy of row " + r + " of a new object", LetterChute::new, x -> x.copy(r, 0, r, 0, 0), NULL);
            EDGE.found("drop of row " + r + " of a new object", LetterChute::new, x -> x.drop(r), NULL);
            EDGE.found("who of row " + r + " of a new house", EdgesOfRowsTest::quiet, x -> x.who(0, 0, r, 0, 1), NULL);
        }
    }

    /** Terms: "ROWS 0 .. 7"; promises 2 to 5 and 28: "BAD: ROW". */
    private static void rowsGoFrom0To7() {
        EDGE.bounds("row of ROW", Scenes::busy, 0, 7, (x, v) -> x.row(v, 0, 1));
        EDGE.bounds("set of ROW", Scenes::busy, 0, 7, (x, v) -> x.set(v, 0, 1));
        EDGE.bounds("copy from ROW", Scenes::busy, 0, 7, (x, v) -> x.copy(v, 0, 0, 0, 1));
        EDGE.bounds("copy to ROW", Scenes::busy, 0, 7, (x, v) -> x.copy(0, 0, v, 0, 1));
        EDGE.bounds("drop of ROW", Scenes::busy, 0, 7, (x, v) -> x.drop(v));
        EDGE.bounds("who of ROW", Scenes::busy, 0, 7, (x, v) -> x.who(0, 0, v, 0, 1));
        EDGE.bounds("row of ROW, no house", Scenes::noHouse, 0, 7, (x, v) -> x.row(v, 0, 1));
    }

    /** Terms: "LANE (0 bytes, 1 shorts, 2 ints)"; promise 2: "BAD: .. LANE". */
    private static void lanesGoFrom0To2() {
        EDGE.bounds("row of LANE", Scenes::busy, 0, 2, (x, v) -> x.row(4, v, 1));
    }

    /** Terms: "0 to 40 ITEMS"; promise 2: "BAD: .. n above 40". */
    private static void aRowHas40ItemsAtMost() {
        EDGE.boundsAbove("row of n", Scenes::busy, 0, 40, (x, v) -> x.row(4, 0, v));
        LetterChute x = new LetterChute();
        EDGE.due("a row of 40", x.row(0, 0, 40), 40);
        EDGE.due("item 39 of 40", x.set(0, 39, 7), 7);
        EDGE.due("item 40 of 40", x.set(0, 40, 7), -1000010 - PLACE);
        EDGE.due("a row of 0", x.row(1, 0, 0), 0);
        EDGE.due("a row of 0 is not missing", x.count(0), 2);
    }

    /** Terms: "4 SIZE (fewer than none)"; promise 2: "SIZE". */
    private static void fewerThanNoneIsSize() {
        EDGE.found("row of -1", Scenes::busy, x -> x.row(0, 2, -1), SIZE);
        EDGE.found("row of far below 0", Scenes::busy, x -> x.row(7, 0, LEAST), SIZE);
        EDGE.found("row of -1 of one that is missing", Scenes::noHouse, x -> x.row(5, 0, -1), SIZE);
    }

    /** Terms: "the first of these that fits: BAD .. then FINDINGS". */
    private static void badComesAheadOfSize() {
        EDGE.refused("row 8 of -1", Scenes::busy, x -> x.row(8, 0, -1), BAD);
        EDGE.refused("row -1 of -1", Scenes::busy, x -> x.row(-1, 0, -1), BAD);
        EDGE.refused("lane 3 of -1", Scenes::busy, x -> x.row(0, 3, -1), BAD);
        EDGE.refused("lane -1 of -1", Scenes::busy, x -> x.row(0, -1, -1), BAD);
    }

    /** Terms: "ITEMS, 0 at first". */
    private static void itemsAre0AtFirst() {
        for (int lane = 0; lane <= 2; lane++) {
            LetterChute x = quiet();
            x.row(0, lane, 40);
            for (int i = 0; i <= 28; i += 4) {
                EDGE.due("12 of 40 new items from " + i + ", lane " + lane, areZero(x, 0, i, 12) ? 1 : 0, 1);
            }
        }
    }

    /** Promise 2: "in place of what is there". */
    private static void aRowComesInPlaceOfWhatIsThere() {
        LetterChute x = quiet();
        x.row(0, 0, 40);
        for (int i = 0; i < 40; i++) {
            x.set(0, i, 1);
        }
        EDGE.due("another lane, fewer items", x.row(0, 2, 12), 12);
        EDGE.due("they are 0", areZero(x, 0, 0, 12) ? 1 : 0, 1);
        EDGE.due("none beyond", x.set(0, 12, 1), -1000010 - PLACE);
        EDGE.due("the other lane", x.set(0, 0, 70000), 70000);
        EDGE.due("as many items again", x.row(0, 2, 40), 40);
        for (int i = 0; i <= 28; i += 4) {
            EDGE.due("12 of 40 items made anew, from " + i, areZero(x, 0, i, 12) ? 1 : 0, 1);
        }
        x.set(0, 39, 1);
        x.drop(0);
        x.row(0, 2, 40);
        EDGE.due("made anew behind drop", areZero(x, 0, 28, 12) ? 1 : 0, 1);
        EDGE.due("still one row", x.count(0), 1);
    }

    /** Promise 3: "its lowest bits, as many as the LANE has: what it is then". */
    private static void anItemHasAsManyBitsAsItsLane() {
        LetterChute x = new LetterChute();
        int[][] cuts = {
            {0, 127, 127}, {0, 128, -128}, {0, 255, -1}, {0, 256, 0}, {0, -128, -128}, {0, -129, 127}, {0, MOST, -1}, {0, LEAST, 0},
            {1, 32767, 32767}, {1, 32768, -32768}, {1, 65535, -1}, {1, 65536, 0}, {1, -32768, -32768}, {1, -32769, 32767},
            {1, MOST, -1}, {1, LEAST, 0}, {2, MOST, MOST}, {2, LEAST, LEAST}, {2, -1, -1}, {2, 65536, 65536},
        };
        for (int lane = 0; lane <= 2; lane++) {
            x.row(lane, lane, 1);
        }
        for (int[] cut : cuts) {
            EDGE.due("item of lane " + cut[0] + " set to " + cut[1], x.set(cut[0], 0, cut[1]), cut[2]);
        }
        LetterChute y = Check.chute("h3,9;c1,1,0;");
        y.row(0, 0, 2);
        y.set(0, 0, 257);
        y.set(0, 1, 266);
        EDGE.due("the item is what is left, 1 and 10", y.who(0, 2, 0, 0, 2), 3);
    }

    /** Promise 3: "NULL; PLACE": the missing row is found first. */
    private static void setOfAMissingRow() {
        EDGE.found("set of a missing row", Scenes::busy, x -> x.set(4, 0, 1), NULL);
        EDGE.found("set of a missing row, no such place either", Scenes::busy, x -> x.set(4, -1, 1), NULL);
        EDGE.refused("set of no row, no such place either", Scenes::busy, x -> x.set(8, -1, 1), BAD);
    }

    /** Promise 3: "PLACE" (no such place of a ROW). */
    private static void setBeyondTheEnds() {
        EDGE.found("set of place -1", Scenes::busy, x -> x.set(0, -1, 1), PLACE);
        EDGE.found("set of place 12 of 12", Scenes::busy, x -> x.set(0, 12, 1), PLACE);
        EDGE.found("set of place 40 of 40", Scenes::busy, x -> x.set(7, 40, 1), PLACE);
        EDGE.found("set far below", Scenes::busy, x -> x.set(7, LEAST, 1), PLACE);
        EDGE.found("set far above", Scenes::busy, x -> x.set(7, MOST, 1), PLACE);
        LetterChute x = Scenes.busy();
        EDGE.due("place 0 of 12", x.set(0, 0, 3), 3);
        EDGE.due("status of place 0", x.status(), 0);
        EDGE.due("place 11 of 12", x.set(0, 11, 3), 3);
        EDGE.due("place 39 of 40", x.set(7, 39, 3), 3);
    }

    private static void setOfAnEmptyRow() {
        EDGE.found("set of place 0 of an empty row", Scenes::busy, x -> x.set(3, 0, 1), PLACE);
    }

    /** Promise 4: "BAD: ROWS", ahead of what is found about the other. */
    private static void copyOfNoSuchRow() {
        EDGE.refused("copy of a missing row to row 8", Scenes::busy, x -> x.copy(4, 0, 8, 0, 0), BAD);
        EDGE.refused("copy of row 8 to a missing row", Scenes::busy, x -> x.copy(8, 0, 4, 0, 0), BAD);
        EDGE.refused("copy of row -1, no such place either", Scenes::busy, x -> x.copy(-1, -1, 0, -1, -1), BAD);
    }

    /** Promise 4: "NULL" ahead of PLACE. */
    private static void copyOfAMissingRow() {
        EDGE.found("copy from a missing row", Scenes::busy, x -> x.copy(4, 0, 0, 0, 1), NULL);
        EDGE.found("copy to a missing row", Scenes::busy, x -> x.copy(0, 0, 4, 0, 1), NULL);
        EDGE.found("copy of none from a missing row", Scenes::busy, x -> x.copy(4, 0, 0, 0, 0), NULL);
        EDGE.found("copy from a missing row, no such place either", Scenes::busy, x -> x.copy(4, -1, 0, 99, 1), NULL);
        EDGE.found("copy to a missing row, no such place either", Scenes::busy, x -> x.copy(0, 99, 4, 0, -1), NULL);
        EDGE.found("copy of a missing row to itself", Scenes::busy, x -> x.copy(5, 0, 5, 0, 0), NULL);
    }

    /** Promise 4: "STORE" ahead of PLACE. */
    private static void copyOfTwoLanes() {
        for (int a = 0; a <= 2; a++) {
            for (int b = 0; b <= 2; b++) {
                if (a != b) {
                    int from = a;
                    int to = b;
                    String name = "copy of lane " + a + " to lane " + b;
                    EDGE.found(name, Scenes::busy, x -> x.copy(from, 0, to, 0, 1), STORE);
                    EDGE.found(name + ", none", Scenes::busy, x -> x.copy(from, 0, to, 0, 0), STORE);
                    EDGE.found(name + ", no such place either", Scenes::busy, x -> x.copy(from, -1, to, 99, -1), STORE);
                }
            }
        }
    }

    /** Promise 4: "PLACE (i, j, n below 0, or beyond an end)"; rows 2 (12 items) and 7 (40 items) are of one lane. */
    private static void copyBeyondAnEnd() {
        EDGE.found("i -1", Scenes::busy, x -> x.copy(7, -1, 2, 0, 1), PLACE);
        EDGE.found("i -1, none", Scenes::busy, x -> x.copy(7, -1, 2, 0, 0), PLACE);
        EDGE.found("j -1", Scenes::busy, x -> x.copy(7, 0, 2, -1, 1), PLACE);
        EDGE.found("j -1, none", Scenes::busy, x -> x.copy(7, 0, 2, -1, 0), PLACE);
        EDGE.found("n -1", Scenes::busy, x -> x.copy(7, 5, 2, 5, -1), PLACE);
        EDGE.found("13 of 12", Scenes::busy, x -> x.copy(2, 0, 7, 0, 13), PLACE);
        EDGE.found("12 of 12 from 1 on", Scenes::busy, x -> x.copy(2, 1, 7, 0, 12), PLACE);
        EDGE.found("13 to 12", Scenes::busy, x -> x.copy(7, 0, 2, 0, 13), PLACE);
        EDGE.found("12 to 12 from 1 on", Scenes::busy, x -> x.copy(7, 0, 2, 1, 12), PLACE);
        EDGE.found("none from beyond the end", Scenes::busy, x -> x.copy(2, 13, 7, 0, 0), PLACE);
        EDGE.found("none to beyond the end", Scenes::busy, x -> x.copy(7, 0, 2, 13, 0), PLACE);
        EDGE.found("i and n that wrap around", Scenes::busy, x -> x.copy(7, MOST, 2, 0, MOST), PLACE);
        EDGE.found("i that wraps around", Scenes::busy, x -> x.copy(7, MOST, 2, 0, 1), PLACE);
        EDGE.found("j that wraps around", Scenes::busy, x -> x.copy(7, 0, 2, MOST, 1), PLACE);
        EDGE.found("n far above", Scenes::busy, x -> x.copy(7, 1, 2, 1, MOST), PLACE);
        EDGE.found("i, j, n far below", Scenes::busy, x -> x.copy(7, LEAST, 2, LEAST, LEAST), PLACE);
        EDGE.found("1 of an empty row", Scenes::busy, x -> x.copy(1, 0, 3, 0, 1), PLACE);
    }

    private static void copyOfNone() {
        EDGE.asked("none, at both ends", Scenes::busy, x -> x.copy(2, 12, 7, 40, 0), 0);
        EDGE.asked("none, at both beginnings", Scenes::busy, x -> x.copy(2, 0, 7, 0, 0), 0);
        EDGE.asked("none of an empty row", Scenes::busy, x -> x.copy(3, 0, 1, 12, 0), 0);
        LetterChute x = Scenes.busy();
        x.copy(2, 12, 7, 40, 0);
        EDGE.due("status of none copied", x.status(), 0);
    }

    private static void copyOfAll() {
        LetterChute x = quiet();
        x.row(0, 2, 40);
        x.row(1, 2, 40);
        for (int i = 0; i < 40; i++) {
            x.set(1, i, 5);
        }
        EDGE.due("all 40", x.copy(0, 0, 1, 0, 40), 40);
        for (int i = 0; i <= 28; i += 4) {
            EDGE.due("12 of 40 items copied, from " + i, areZero(x, 1, i, 12) ? 1 : 0, 1);
        }
        EDGE.due("the last one", x.copy(0, 39, 1, 39, 1), 1);
    }

    /** Promise 4: "as they were ahead": a row copied into itself, up and down. What fits (from floors 0 and 1) is 1, 10, 10, .. */
    private static void copyAsTheyWereAhead() {
        LetterChute x = Check.chute("h3,9;c1,1,0;");
        Check.row(x, 0, 0, 1, 10, 10, 10, 5, 5);
        EDGE.due("up by 1", x.copy(0, 0, 0, 1, 4), 4);
        EDGE.due("they lie at 1", x.who(0, 2, 0, 1, 4), 3);
        EDGE.due("down by 1", x.copy(0, 1, 0, 0, 4), 4);
        EDGE.due("they lie at 0", x.who(0, 2, 0, 0, 4), 3);
        EDGE.due("to where they are", x.copy(0, 0, 0, 0, 6), 6);
        EDGE.due("they still lie at 0", x.who(0, 2, 0, 0, 4), 3);
        EDGE.due("the last copied up is left", x.who(0, 2, 0, 0, 5), 3);
        EDGE.due("what was not copied stays", x.who(0, 2, 0, 0, 6), 0);
    }

    /** Promise 5: "BAD; NULL". */
    private static void dropOfAMissingRow() {
        EDGE.found("drop of a missing row", Scenes::busy, x -> x.drop(4), NULL);
        LetterChute x = Scenes.busy();
        x.drop(7);
        EDGE.due("drop of a row that was dropped", x.drop(7), -1000010 - NULL);
        EDGE.due("set of a row that was dropped", x.set(7, 0, 0), -1000010 - NULL);
        EDGE.due("copy from a row that was dropped", x.copy(7, 0, 2, 0, 0), -1000010 - NULL);
        EDGE.due("copy to a row that was dropped", x.copy(2, 0, 7, 0, 0), -1000010 - NULL);
        EDGE.due("who of a row that was dropped", x.who(0, 0, 7, 0, 1), -1000010 - NULL);
    }

    /** Promise 5: "how many ITEMS it had", from 0 to 40. */
    private static void dropTellsHowManyItemsItHad() {
        LetterChute x = new LetterChute();
        for (int n = 0; n <= 40; n++) {
            x.row(n % 8, n % 3, n);
            EDGE.due("drop of a row of " + n, x.drop(n % 8), n);
            EDGE.due("status of it", x.status(), 0);
            EDGE.due("no row is left", x.count(0), 0);
        }
        for (int row = 0; row < 8; row++) {
            EDGE.due("rows ahead of " + row, x.count(0), row);
            x.row(row, 0, 0);
        }
        EDGE.due("all eight rows", x.count(0), 8);
    }

    /** Promise 38: "Of the latest call with a ROW, or as(), that was not BAD, STATE, FULL". */
    private static void statusIsOfTheLatestCallWithARow() {
        LetterChute x = Scenes.busy();
        EDGE.due("status of PLACE", x.status(), PLACE);
        x.row(8, 0, 0);
        x.set(-1, 0, 0);
        x.copy(0, 0, 8, 0, 0);
        x.drop(8);
        x.who(6, 0, 0, 0, 1);
        x.as(0, 6);
        EDGE.due("status stays behind BAD", x.status(), PLACE);
        x.row(0, 0, -1);
        EDGE.due("status of row", x.status(), SIZE);
        x.set(4, 0, 0);
        EDGE.due("status of set", x.status(), NULL);
        x.copy(1, 0, 2, 0, 0);
        EDGE.due("status of copy", x.status(), STORE);
        x.who(0, 0, 0, 1, 12);
        EDGE.due("status of who", x.status(), PLACE);
        x.as(0, 5);
        EDGE.due("status of as", x.status(), Edge.KIND);
        x.drop(4);
        EDGE.due("status of drop", x.status(), NULL);
        Edge.Call[] fine = {
            y -> y.row(4, 0, 1), y -> y.set(0, 0, 14), y -> y.copy(0, 0, 0, 0, 1), y -> y.drop(0),
            y -> y.who(0, 4, 1, 0, 12), y -> y.who(0, 4, 7, 0, 1), y -> y.as(0, 0),
        };
        for (int i = 0; i < fine.length; i++) {
            LetterChute y = Scenes.busy();
            fine[i].on(y);
            EDGE.due("status of what has no finding, " + i, y.status(), 0);
        }
    }

    /** Promise 38: of a call with a row, or as(), and of no other. */
    private static void statusIsNotOfOtherCalls() {
        Edge.Call[] others = {
            x -> x.feed(0), x -> x.feed(256), x -> x.house(), x -> x.fault(), x -> x.undo(), x -> x.ticks(1), x -> x.ticks(0),
            x -> x.wide(5), x -> x.wide(1), x -> x.poke(0), x -> x.poke(1), x -> x.post(1, 0), x -> x.post(0, 0),
            x -> x.letter(0, 0), x -> x.floor(0, 0), x -> x.stand(0), x -> x.ahead(0, 1, 0), x -> x.full(0, 1),
            x -> x.all(1, 0), x -> x.when(5, 1), x -> x.over(), x -> x.order(1, 0), x -> x.need(1), x -> x.latest(0, 1),
            x -> x.sets(0, 0), x -> x.share(0, 1), x -> x.byTurns(1, 1), x -> x.lost(0, 1, 1, 0), x -> x.drawn(1, 1, 0),
            x -> x.image(1), x -> x.restore(0), x -> x.restore(1), x -> x.kind(0), x -> x.ask(0, 0), x -> x.trace(0),
            x -> x.count(0), x -> x.status(),
        };
        for (int i = 0; i < others.length; i++) {
            LetterChute x = Scenes.busy();
            others[i].on(x);
            EDGE.due("status behind a call without a row, " + i, x.status(), PLACE);
        }
    }
}
