/** The edges of promises 9 to 16, 31 and 32, of room, TICKS and ACTS: one method for each sentence. */
public final class EdgesOfActsTest {
    private static final int BAD = Edge.BAD, STATE = Edge.STATE, FULL = Edge.FULL;
    private static final int WAITS = 20, BOX = 21;
    private static final Edge EDGE = new Edge();

    public static void main(String[] args) {
        stateComesAheadOfBadWithoutAHouse();
        thereIsNoSuchLetterWithoutAHouse();
        lettersGoAsFarAsTheyWereTold();
        floorsGoAsFarAsTheyWereTold();
        ticksGoFrom1To24();
        tickIs999AtMost();
        badComesAheadOfFullTicks();
        wideGoesFrom2To20();
        wideTellsWhatItWas();
        whatLiesThereStays();
        pokeOfOneThatIsNotInTheShaft();
        pokeWhetherThereIsRoomOrNot();
        pokeAtFloor0();
        pokeKeepsStuckAndRun();
        postOfOneThatIsNotInTheBox();
        badComesAheadOfStateInPost();
        postedAnew();
        letterTellsWhat0To6();
        fallOfOneThatIsNotInTheShaft();
        floorTellsWhat0And1();
        standTellsWhat0To4();
        roomIsNoMoreThanWide();
        roomForOneThatFalls();
        roomForASlipAlways();
        roomInTheBoxAlways();
        startIsTickOrLess();
        aRollFalls4AtMost();
        aLimpOneAloneAndNot();
        stuckIs999AtMost();
        stuckOrRun();
        actsAre24AtMost();
        actsAreKeptAllAround();
        undoOfNone();
        undoOfEachAct();
        refusedIsNoAct();
        imagesAre0And1();
        imageWithoutAHouse();
        restoreOfNone();
        restoreLeavesNoAct();
        anImageIsKeptAsItWas();
        EDGE.end();
    }

    private static void where(LetterChute x, String name, int letter, int place, int stuck, int run) {
        EDGE.due(name + ": where " + letter + " is", x.letter(letter, 3), place);
        EDGE.due(name + ": stuck of " + letter, x.letter(letter, 4), stuck);
        EDGE.due(name + ": run of " + letter, x.letter(letter, 5), run);
    }

    /** Promises 10, 11, 16: "STATE: no HOUSE (ahead of BAD)"; 9: "STATE: none". */
    private static void stateComesAheadOfBadWithoutAHouse() {
        for (int v : new int[] {Edge.LEAST, -1, 0, 1, 2, 25, Edge.MOST}) {
            EDGE.refused("ticks " + v + ", no house", Scenes::noHouse, x -> x.ticks(v), STATE);
            EDGE.refused("wide " + v + ", no house", Scenes::noHouse, x -> x.wide(v), STATE);
            EDGE.refused("stand " + v + ", no house", Scenes::noHouse, x -> x.stand(v), STATE);
        }
        EDGE.refused("undo, no house", Scenes::noHouse, x -> x.undo(), STATE);
    }

    /** Terms: "BAD (.. there is no such thing)". */
    private static void thereIsNoSuchLetterWithoutAHouse() {
        EDGE.refused("poke, no house", Scenes::noHouse, x -> x.poke(0), BAD);
        EDGE.refused("post, no house", Scenes::noHouse, x -> x.post(0, 0), BAD);
        EDGE.refused("letter, no house", Scenes::noHouse, x -> x.letter(0, 0), BAD);
        EDGE.refused("floor, no house", Scenes::noHouse, x -> x.floor(0, 0), BAD);
    }

    /** Promises 12 to 14: a LETTER there is, of six and of one. */
    private static void lettersGoAsFarAsTheyWereTold() {
        EDGE.bounds("poke of LETTER", Scenes::busy, 0, 5, (x, v) -> x.poke(v));
        EDGE.bounds("post of LETTER", Scenes::busy, 0, 5, (x, v) -> x.post(v, 0));
        EDGE.bounds("letter of LETTER", Scenes::busy, 0, 5, (x, v) -> x.letter(v, 0));
        Edge.Scene one = () -> Check.chute("h3,9;c0,1,0;");
        EDGE.bounds("poke of the only LETTER", one, 0, 0, (x, v) -> x.poke(v));
        EDGE.bounds("post of the only LETTER", one, 0, 0, (x, v) -> x.post(v, 0));
        EDGE.bounds("letter of the only LETTER", one, 0, 0, (x, v) -> x.letter(v, 0));
    }

    /** Promises 13 and 15: a FLOOR there is, of three, six and nine. */
    private static void floorsGoAsFarAsTheyWereTold() {
        EDGE.bounds("post at FLOOR of six", Scenes::busy, 0, 5, (x, v) -> x.post(1, v));
        EDGE.bounds("floor of six", Scenes::busy, 0, 5, (x, v) -> x.floor(v, 0));
        for (int floors : new int[] {3, 9}) {
            Edge.Scene scene = () -> {
                LetterChute x = Check.chute("h" + floors + ",9;c0,1,0;");
                x.ticks(2);
                return x;
            };
            EDGE.bounds("post at FLOOR of " + floors, scene, 0, floors - 1, (x, v) -> x.post(0, v));
            EDGE.bounds("floor of " + floors, scene, 0, floors - 1, (x, v) -> x.floor(v, 0));
        }
    }

    /** Promise 10: "n TICKS (1 to 24), an ACT each". */
    private static void ticksGoFrom1To24() {
        EDGE.bounds("ticks", Scenes::busy, 1, 24, (x, v) -> x.ticks(v));
        LetterChute x = Check.chute("h3,9;c2,1,0;");
        x.ticks(1);
        EDGE.due("one tick", x.count(3), 1);
        EDGE.due("one act", x.count(6), 1);
        LetterChute y = Check.chute("h3,9;c2,1,0;");
        y.ticks(24);
        EDGE.due("24 ticks", y.count(3), 24);
        EDGE.due("24 acts", y.count(6), 24);
        LetterChute z = Check.chute("h3,9;c2,1,0;c2,1,20;");
        EDGE.due("none in the box", z.ticks(2), 0);
        EDGE.due("letter 0 in the box then", z.ticks(1), 1);
        EDGE.due("both in the box then", z.ticks(24), 3);
    }

    /** Promise 10: "FULL: TICK would be above 999". */
    private static void tickIs999AtMost() {
        EDGE.refused("1 at tick 999", () -> Scenes.stuckAt(999), x -> x.ticks(1), FULL);
        EDGE.refused("24 at tick 999", () -> Scenes.stuckAt(999), x -> x.ticks(24), FULL);
        EDGE.refused("2 at tick 998", () -> Scenes.stuckAt(998), x -> x.ticks(2), FULL);
        EDGE.refused("24 at tick 976", () -> Scenes.stuckAt(976), x -> x.ticks(24), FULL);
        LetterChute x = Scenes.stuckAt(998);
        EDGE.due("1 at tick 998", x.ticks(1), 0);
        EDGE.due("tick 999", x.count(3), 999);
        LetterChute y = Scenes.stuckAt(975);
        EDGE.due("24 at tick 975", y.ticks(24), 0);
        EDGE.due("tick 999 by 24", y.count(3), 999);
        EDGE.due("undo of a tick", y.undo(), 23);
        EDGE.due("1 more again", y.ticks(1), 0);
        EDGE.due("and no more", y.ticks(1), FULL);
        EDGE.due("other acts are not ticks: wide", y.wide(9), 2);
        EDGE.due("poke at tick 999", y.poke(0), 1);
        y.poke(0);
        y.poke(0);
        EDGE.due("post at tick 999", y.post(0, 0), 1);
        EDGE.due("its start", y.letter(0, 2), 999);
        EDGE.due("foretold, it still comes down", y.when(0, 1), 2);
    }

    private static void badComesAheadOfFullTicks() {
        EDGE.refused("25 at tick 999", () -> Scenes.stuckAt(999), x -> x.ticks(25), BAD);
        EDGE.refused("0 at tick 999", () -> Scenes.stuckAt(999), x -> x.ticks(0), BAD);
        EDGE.refused("far above at tick 999", () -> Scenes.stuckAt(999), x -> x.ticks(Edge.MOST), BAD);
    }

    /** Promise 11: "WIDE (2 to 20)". */
    private static void wideGoesFrom2To20() {
        EDGE.bounds("wide", Scenes::busy, 2, 20, (x, v) -> x.wide(v));
    }

    /** Promise 11: "what it was". */
    private static void wideTellsWhatItWas() {
        LetterChute x = Check.chute("h3,7;c0,1,0;");
        int was = 7;
        for (int v = 2; v <= 20; v++) {
            EDGE.due("wide " + v, x.wide(v), was);
            EDGE.due("wide is " + v, x.stand(1), v);
            was = v;
        }
        EDGE.due("an act each", x.count(6), 19);
        EDGE.due("wide 2 again", x.wide(2), 20);
    }

    /** Terms: "WIDE is another (what lies there stays)". */
    private static void whatLiesThereStays() {
        LetterChute x = Check.chute("h3,20;c2,9,0;c2,9,0;c2,2,0;");
        x.ticks(1);
        x.wide(2);
        EDGE.due("full, more than wide", x.floor(2, 0), 20);
        EDGE.due("all three lie there", x.floor(2, 1), 7);
        EDGE.due("all three in the shaft", x.stand(3), 7);
        x.ticks(1);
        where(x, "too thick", 0, 2, 1, 0);
        where(x, "too thick", 1, 2, 1, 0);
        where(x, "just as thick as wide", 2, 0, 0, 1);
    }

    /** Promise 12: "STATE: it is not in the shaft". */
    private static void pokeOfOneThatIsNotInTheShaft() {
        EDGE.refused("poke of one in the box", Scenes::busy, x -> x.poke(1), STATE);
        EDGE.refused("poke of one that waits anew", Scenes::busy, x -> x.poke(4), STATE);
        EDGE.refused("poke of one that waits", Scenes::busy, x -> x.poke(5), STATE);
    }

    /** Terms: "it is one FLOOR lower, whether there is room or not". */
    private static void pokeWhetherThereIsRoomOrNot() {
        LetterChute x = Check.chute("h4,9;c3,9,0;c2,9,0;");
        x.ticks(1);
        x.wide(2);
        EDGE.due("poked onto a full floor", x.poke(0), 2);
        EDGE.due("full there", x.floor(2, 0), 18);
        EDGE.due("both there", x.floor(2, 1), 3);
        EDGE.due("nothing where it was", x.floor(3, 0), 0);
        EDGE.due("an act", x.count(6), 3);
        EDGE.due("no tick", x.count(3), 1);
    }

    /** Terms: "at FLOOR 0 it is in THE BOX". */
    private static void pokeAtFloor0() {
        LetterChute x = Check.chute("h3,9;p1,1,0;");
        x.ticks(1);
        EDGE.due("poked at floor 1", x.poke(0), 0);
        EDGE.due("not in the box yet", x.stand(4), 0);
        EDGE.due("poked at floor 0", x.poke(0), BOX);
        EDGE.due("in the box", x.stand(4), 1);
        EDGE.due("in the box, counted", x.count(4), 1);
        EDGE.due("floor 0 is empty", x.floor(0, 0), 0);
        EDGE.due("poked in the box", x.poke(0), STATE);
    }

    /** Terms: "one that is POKED keeps STUCK, RUN". */
    private static void pokeKeepsStuckAndRun() {
        LetterChute x = Check.chute("h9,9;r8,9,0;");
        x.ticks(1);
        x.wide(8);
        x.ticks(2);
        x.wide(9);
        x.ticks(2);
        where(x, "a roll", 0, 5, 2, 2);
        x.poke(0);
        where(x, "a roll poked", 0, 4, 2, 2);
        EDGE.due("and it falls on as it ran", x.letter(0, 6), 3);
        for (int i = 0; i < 5; i++) {
            x.poke(0);
        }
        where(x, "a roll poked into the box", 0, BOX, 2, 2);
    }

    /** Promise 13: "STATE: it is not in THE BOX". */
    private static void postOfOneThatIsNotInTheBox() {
        EDGE.refused("post of one in the shaft", Scenes::busy, x -> x.post(0, 0), STATE);
        EDGE.refused("post of one that waits anew", Scenes::busy, x -> x.post(4, 0), STATE);
        EDGE.refused("post of one that waits", Scenes::busy, x -> x.post(5, 0), STATE);
    }

    private static void badComesAheadOfStateInPost() {
        EDGE.refused("post of one in the shaft at no floor", Scenes::busy, x -> x.post(0, 6), BAD);
        EDGE.refused("post of one that waits at floor -1", Scenes::busy, x -> x.post(5, -1), BAD);
        EDGE.refused("post of no letter at no floor", Scenes::busy, x -> x.post(6, 6), BAD);
    }

    /** Terms: "it WAITS at a FLOOR, its own from then on, START is this TICK; STUCK, RUN 0". */
    private static void postedAnew() {
        LetterChute x = Check.chute("h3,5;c2,5,0;p0,1,20;");
        x.ticks(1);
        x.wide(2);
        x.ticks(2);
        x.wide(5);
        EDGE.due("0 is down", x.ticks(2), 1);
        where(x, "ahead of it", 0, BOX, 2, 2);
        EDGE.due("posted anew: they wait", x.post(0, 1), 3);
        where(x, "posted anew", 0, WAITS, 0, 0);
        EDGE.due("its floor", x.letter(0, 0), 1);
        EDGE.due("its start", x.letter(0, 2), 5);
        EDGE.due("its thick", x.letter(0, 1), 5);
        EDGE.due("no tick", x.count(3), 5);
        x.ticks(1);
        where(x, "in the next tick", 0, 1, 0, 0);
        x.ticks(1);
        x.post(0, 2);
        EDGE.due("its own from then on", x.letter(0, 0), 2);
        x.ticks(3);
        where(x, "down again", 0, BOX, 0, 2);
        EDGE.due("the floor is still its own", x.letter(0, 0), 2);
    }

    /** Promise 14: what 0 to 6. */
    private static void letterTellsWhat0To6() {
        EDGE.bounds("letter of what", Scenes::busy, 0, 6, (x, v) -> x.letter(0, v));
        int[][] told = {
            {5, 4, 0, 2, 3, 0, 2}, {4, 9, 1, 21, 0, 3, 0}, {5, 3, 0, 3, 3, 0, 2}, {2, 5, 0, 1, 3, 0, 1}, {5, 2, 5, 20, 0, 0, 0},
            {3, 6, 20, 20, 0, 0, 0},
        };
        for (int i = 0; i < 6; i++) {
            for (int what = 0; what <= 6; what++) {
                int letter = i;
                int w = what;
                EDGE.asked("letter " + i + ", " + what, Scenes::busy, x -> x.letter(letter, w), told[i][what]);
            }
        }
    }

    /** Promise 14: "0: it is not in the shaft". */
    private static void fallOfOneThatIsNotInTheShaft() {
        String[] sorts = {"c", "s", "l", "p", "r"};
        int[] falls = {2, 2, 2, 1, 1};
        for (int k = 0; k < 5; k++) {
            LetterChute x = Check.chute("h3,9;" + sorts[k] + "2,1,1;");
            x.ticks(1);
            EDGE.due(sorts[k] + " that waits", x.letter(0, 6), 0);
            x.ticks(1);
            EDGE.due(sorts[k] + " in the shaft", x.letter(0, 6), falls[k]);
            x.wide(2);
            EDGE.due(sorts[k] + " in the shaft, however wide", x.letter(0, 6), falls[k]);
            x.ticks(9);
            EDGE.due(sorts[k] + " in the box", x.letter(0, 6), 0);
        }
    }

    /** Promise 15: what 0, 1. */
    private static void floorTellsWhat0And1() {
        EDGE.bounds("floor of what", Scenes::busy, 0, 1, (x, v) -> x.floor(0, v));
        int[] full = {0, 5, 4, 3, 0, 0};
        int[] letters = {0, 8, 1, 4, 0, 0};
        for (int f = 0; f < 6; f++) {
            int floor = f;
            EDGE.asked("full of floor " + f, Scenes::busy, x -> x.floor(floor, 0), full[f]);
            EDGE.asked("letters at floor " + f, Scenes::busy, x -> x.floor(floor, 1), letters[f]);
        }
    }

    /** Promise 16: what 0 to 4. */
    private static void standTellsWhat0To4() {
        EDGE.bounds("stand of what", Scenes::busy, 0, 4, (x, v) -> x.stand(v));
        int[] told = {6, 8, 48, 13, 2};
        for (int what = 0; what <= 4; what++) {
            int w = what;
            EDGE.asked("stand " + what, Scenes::busy, x -> x.stand(w), told[what]);
        }
    }

    /** Terms: "There is room .., if FULL, with its THICK, is no more than WIDE", as it is posted. */
    private static void roomIsNoMoreThanWide() {
        LetterChute x = Check.chute("h3,5;c2,3,0;c2,2,0;");
        x.ticks(1);
        EDGE.due("3 and 2 are 5", x.stand(3), 3);
        LetterChute y = Check.chute("h3,5;c2,3,0;c2,3,0;");
        y.ticks(1);
        EDGE.due("3 and 3 are more", y.stand(3), 1);
        EDGE.due("so one waits", y.stand(2), 2);
        where(y, "one that waits is not stuck", 1, WAITS, 0, 0);
        LetterChute z = Check.chute("h3,8;c2,9,0;c2,8,0;");
        z.ticks(24);
        EDGE.due("9 by itself is more than 8, and 8 is not", z.stand(4), 2);
        EDGE.due("it waits for good", z.stand(2), 1);
    }

    /** The same, as it falls: it stops above the floor where there is no room. */
    private static void roomForOneThatFalls() {
        LetterChute x = Check.chute("h5,5;p3,2,0;c4,3,0;");
        x.ticks(2);
        where(x, "2 and 3 are 5", 1, 2, 0, 1);
        LetterChute y = Check.chute("h5,5;p3,2,0;c4,4,0;");
        y.ticks(2);
        where(y, "2 and 4 are more", 1, 3, 0, 1);
        EDGE.due("one floor is no sticking", y.count(5), 0);
    }

    /** Terms: "for a slip always", as it is posted and as it falls; but others have no room because of it. */
    private static void roomForASlipAlways() {
        LetterChute x = Check.chute("h4,2;c3,2,0;s3,9,0;s3,9,0;c3,1,0;");
        x.ticks(1);
        EDGE.due("both slips come in", x.stand(3), 7);
        EDGE.due("the second card does not", x.stand(2), 8);
        EDGE.due("full", x.floor(3, 0), 20);
        LetterChute y = Check.chute("h4,9;c2,9,0;s3,9,0;");
        y.ticks(1);
        y.wide(2);
        y.ticks(1);
        where(y, "a card is stuck", 0, 2, 1, 0);
        where(y, "a slip slides past it", 1, 1, 0, 1);
    }

    /** Terms: "below FLOOR 0 is THE BOX": there is always room. */
    private static void roomInTheBoxAlways() {
        LetterChute x = Check.chute("h3,20;c0,9,0;c0,9,0;p1,9,0;");
        x.ticks(1);
        x.wide(2);
        EDGE.due("both at floor 0 come into the box", x.ticks(1), 3);
        where(x, "the one above is stuck", 2, 1, 1, 0);
        LetterChute y = Check.chute("h3,9;c0,9,0;c1,9,0;r0,9,0;");
        EDGE.due("cards at floors 0 and 1 go no further than the box", y.ticks(2), 3);
        where(y, "from floor 0", 0, BOX, 0, 1);
        where(y, "from floor 1", 1, BOX, 0, 1);
        where(y, "as floor 0 is empty, one comes in there", 2, 0, 0, 0);
    }

    /** Terms: "each that WAITS and whose START is TICK or less". */
    private static void startIsTickOrLess() {
        for (int start : new int[] {0, 1, 20}) {
            LetterChute x = Check.chute("h3,9;c2,1," + start + ";");
            if (start > 0) {
                x.ticks(start);
            }
            EDGE.due("start " + start + " at tick " + start + ": it waits", x.letter(0, 3), WAITS);
            x.ticks(1);
            EDGE.due("start " + start + " behind tick " + start, x.letter(0, 3), 2);
        }
        LetterChute y = Check.chute("h3,2;c2,3,0;");
        y.ticks(5);
        y.wide(3);
        y.ticks(1);
        EDGE.due("a start long ago", y.letter(0, 3), 2);
    }

    /** Terms: "a roll as a parcel, and RUN, but 4 at most". */
    private static void aRollFalls4AtMost() {
        LetterChute x = Check.chute("h9,9;p7,5,0;r8,5,0;");
        int[] floors = {8, 7, 6, 5, 4};
        for (int run = 0; run <= 4; run++) {
            x.ticks(1);
            where(x, "a roll held back, tick " + (run + 1), 1, floors[run], 0, run);
            EDGE.due("it would fall, run " + run, x.letter(1, 6), Math.min(4, run + 1));
        }
        for (int i = 0; i < 4; i++) {
            x.poke(0);
        }
        x.ticks(1);
        where(x, "it fell 4", 1, 0, 0, 5);
        EDGE.due("run 5, and still 4", x.letter(1, 6), 4);
    }

    /** Terms: "a limp one as a card, but 1, if another LETTER is at its FLOOR as its turn comes". */
    private static void aLimpOneAloneAndNot() {
        LetterChute x = Check.chute("h9,20;l8,1,0;l8,1,0;l8,1,0;");
        x.ticks(1);
        for (int i = 0; i < 3; i++) {
            EDGE.due("with others, " + i, x.letter(i, 6), 1);
        }
        x.ticks(1);
        where(x, "the first", 0, 7, 0, 1);
        where(x, "the second", 1, 7, 0, 1);
        where(x, "the third was alone", 2, 6, 0, 1);
        EDGE.due("two together", x.letter(0, 6), 1);
        EDGE.due("alone", x.letter(2, 6), 2);
        LetterChute y = Check.chute("h9,20;c8,1,0;l8,1,0;");
        y.ticks(2);
        where(y, "the card goes first, so that the limp one is alone", 1, 6, 0, 1);
        LetterChute z = Check.chute("h9,20;l8,1,0;c8,1,0;l0,1,0;");
        z.ticks(2);
        where(z, "the card is still there", 0, 7, 0, 1);
        EDGE.due("alone at floor 0 it is in the box", z.stand(4), 4);
    }

    /** Terms: "STUCK 1 more (999 at most)"; by ticks it comes to 998, so the rest is foretold. */
    private static void stuckIs999AtMost() {
        LetterChute x = Scenes.stuckAt(999);
        EDGE.due("stuck at tick 999", x.letter(0, 4), 998);
        EDGE.due("behind 1", x.ahead(0, 1, 1), 999);
        EDGE.due("behind 2", x.ahead(0, 2, 1), 999);
        EDGE.due("behind 60", x.ahead(0, 60, 1), 999);
        EDGE.due("of all behind 60", x.all(60, 1), 999);
        EDGE.due("by draws that leave it", x.drawn(1, 1, 1), 999);
        EDGE.due("share of 999", x.share(0, 999), 999);
    }

    /** Terms: "One that came down none has STUCK 1 more, RUN is 0; any other one RUN 1 more". */
    private static void stuckOrRun() {
        LetterChute x = Check.chute("h9,9;p8,9,0;");
        x.ticks(3);
        where(x, "it runs", 0, 6, 0, 2);
        x.wide(8);
        x.ticks(1);
        where(x, "it is stuck", 0, 6, 1, 0);
        x.ticks(1);
        where(x, "it is stuck twice", 0, 6, 2, 0);
        x.wide(9);
        x.ticks(1);
        where(x, "it runs anew", 0, 5, 2, 1);
        x.ticks(6);
        where(x, "in the box", 0, BOX, 2, 7);
        x.ticks(9);
        where(x, "in the box nothing more comes", 0, BOX, 2, 7);
    }

    /** Terms: "24 at most are kept, of more the oldest is forgotten". */
    private static void actsAre24AtMost() {
        for (int acts = 23; acts <= 26; acts++) {
            LetterChute x = Check.chute("h3,20;c2,1,20;");
            for (int a = 1; a <= acts; a++) {
                x.wide(2 + a % 19);
                EDGE.due("acts behind " + a, x.count(6), Math.min(24, a));
            }
            for (int left = Math.min(24, acts) - 1; left >= 0; left--) {
                EDGE.due("undo of " + acts + " to " + left, x.undo(), left);
            }
            EDGE.due("the oldest that is kept", x.stand(1), acts <= 24 ? 20 : 2 + (acts - 24) % 19);
            EDGE.due("no more", x.undo(), STATE);
        }
        LetterChute y = Check.chute("h3,20;c2,1,20;");
        y.wide(5);
        y.ticks(24);
        for (int i = 0; i < 24; i++) {
            y.undo();
        }
        EDGE.due("24 ticks made wide be forgotten", y.stand(1), 5);
        EDGE.due("tick 0", y.count(3), 0);
        EDGE.due("nothing more to undo", y.undo(), STATE);
    }

    /** Acts made and undone, all around what is kept, and far more often than 24 times. */
    private static void actsAreKeptAllAround() {
        LetterChute x = Check.chute("h3,20;c2,1,20;");
        for (int round = 0; round < 9; round++) {
            for (int a = 0; a < 17; a++) {
                x.wide(2 + (round + a) % 19);
            }
            for (int a = 16; a > 5; a--) {
                x.undo();
                EDGE.due("wide, undone to act " + a + " of round " + round, x.stand(1), 2 + (round + a - 1) % 19);
            }
        }
        EDGE.due("24 less the eleven undone", x.count(6), 13);
    }

    /** Promise 9: "STATE: none". */
    private static void undoOfNone() {
        EDGE.refused("undo of a new object", LetterChute::new, x -> x.undo(), STATE);
        EDGE.refused("undo of a new house", () -> Check.chute("h3,9;c0,1,0;"), x -> x.undo(), STATE);
        Edge.Scene restored = () -> {
            LetterChute x = Scenes.busy();
            x.restore(0);
            return x;
        };
        EDGE.refused("undo behind restore", restored, x -> x.undo(), STATE);
        Edge.Scene undone = () -> {
            LetterChute x = Scenes.busy();
            for (int i = 0; i < 9; i++) {
                x.undo();
            }
            return x;
        };
        EDGE.refused("undo when all is undone", undone, x -> x.undo(), STATE);
        LetterChute x = Scenes.busy();
        for (int left = 8; left >= 0; left--) {
            EDGE.due("undo, so many can be undone yet", x.undo(), left);
        }
        EDGE.due("as it was told: all wait", x.stand(2), 63);
        EDGE.due("as it was told: wide", x.stand(1), 7);
        EDGE.due("as it was told: tick", x.count(3), 0);
    }

    /** Terms: "each can be undone, the latest first": all is as it was ahead of it. */
    private static void undoOfEachAct() {
        Edge.Call[] acts = {x -> x.ticks(1), x -> x.wide(20), x -> x.poke(0), x -> x.post(1, 0)};
        for (int i = 0; i < acts.length; i++) {
            Edge.Call act = acts[i];
            EDGE.asked("an act undone, " + i, Scenes::busy, x -> {
                act.on(x);
                return x.undo();
            }, 9);
        }
    }

    private static void refusedIsNoAct() {
        LetterChute x = Scenes.busy();
        x.ticks(0);
        x.ticks(25);
        x.wide(1);
        x.wide(21);
        x.poke(1);
        x.poke(6);
        x.post(0, 0);
        x.post(1, 6);
        x.restore(1);
        x.image(2);
        EDGE.due("acts behind refusals", x.count(6), 9);
    }

    /** Promises 31 and 32: "An IMAGE (0, 1)". */
    private static void imagesAre0And1() {
        EDGE.bounds("image", Scenes::busy, 0, 1, (x, v) -> x.image(v));
        EDGE.bounds("restore", Scenes::busy, 0, 1, (x, v) -> x.restore(v));
        LetterChute x = Scenes.busy();
        EDGE.due("image 1", x.image(1), 1);
        EDGE.due("image 0", x.image(0), 1);
        EDGE.due("an image is no act", x.count(6), 9);
        EDGE.due("restore 1", x.restore(1), 1);
        EDGE.due("restore 0", x.restore(0), 1);
    }

    /** Promise 31: "BAD; STATE: no HOUSE". */
    private static void imageWithoutAHouse() {
        EDGE.refused("image 0, no house", Scenes::noHouse, x -> x.image(0), STATE);
        EDGE.refused("image 1, no house", Scenes::noHouse, x -> x.image(1), STATE);
        EDGE.refused("image 2, no house", Scenes::noHouse, x -> x.image(2), BAD);
        EDGE.refused("image -1, no house", Scenes::noHouse, x -> x.image(-1), BAD);
    }

    /** Promise 32: "BAD; STATE: none was kept". */
    private static void restoreOfNone() {
        EDGE.refused("restore 0, no house", Scenes::noHouse, x -> x.restore(0), STATE);
        EDGE.refused("restore 2, no house", Scenes::noHouse, x -> x.restore(2), BAD);
        EDGE.refused("restore 1, image 0 alone was kept", Scenes::busy, x -> x.restore(1), STATE);
    }

    /** Promise 32: "no ACT can be undone then". */
    private static void restoreLeavesNoAct() {
        LetterChute x = Scenes.busy();
        x.restore(0);
        EDGE.due("no act", x.count(6), 0);
        EDGE.due("undo", x.undo(), STATE);
        x.ticks(1);
        EDGE.due("one act", x.count(6), 1);
        EDGE.due("undone", x.undo(), 0);
        EDGE.due("as the image kept it", x.count(3), 2);
    }

    /** Promises 31 and 32: "The HOUSE is as an IMAGE kept it". */
    private static void anImageIsKeptAsItWas() {
        LetterChute x = Scenes.busy();
        x.image(1);
        x.ticks(9);
        x.wide(2);
        x.restore(1);
        LetterChute twin = Scenes.busy();
        for (int i = 0; i < 6; i++) {
            for (int what = 0; what <= 6; what++) {
                EDGE.due("letter " + i + ", " + what + ", restored", x.letter(i, what), twin.letter(i, what));
            }
            EDGE.due("full of floor " + i + ", restored", x.floor(i, 0), twin.floor(i, 0));
        }
        for (int what = 0; what <= 4; what++) {
            EDGE.due("stand " + what + ", restored", x.stand(what), twin.stand(what));
        }
        EDGE.due("tick, restored", x.count(3), 5);
        x.ticks(1);
        x.image(1);
        x.ticks(3);
        x.restore(1);
        EDGE.due("an image kept anew", x.count(3), 6);
        x.restore(0);
        EDGE.due("the other one is still kept", x.count(3), 2);
    }
}
