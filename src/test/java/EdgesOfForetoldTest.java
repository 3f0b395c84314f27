/** The edges of promises 17 to 30, of what is FORETOLD: one method for each sentence. */
public final class EdgesOfForetoldTest {
    private static final int BAD = Edge.BAD, STATE = Edge.STATE, NONE = Edge.NONE, NULL = Edge.NULL, PLACE = Edge.PLACE;
    private static final Edge EDGE = new Edge();

    public static void main(String[] args) {
        stateComesAheadOfBadWithoutAHouse();
        thereIsNoSuchThingWithoutAHouse();
        lettersGoAsFarAsTheyWereTold();
        aheadBy0To60();
        fullBehind0To60();
        allBehind0To60();
        beyondTick999();
        whenInTheShaftAndInTheBox();
        whenNever();
        overNowAndNever();
        whenAndOverAtTheLongest();
        orderFor1To40();
        orderOfTheKth();
        orderCountsNAnd1();
        orderOfSeveralTheFirst();
        orderIsOfTheHouseThatStands();
        needFor1To40();
        needGoesFrom2To20();
        latestFor1To40();
        latestOfOneThatDoesNotWait();
        latestGoesFrom0To99();
        latestNever();
        setsOf0To54();
        setsOfNone();
        setsLeaveOutTheBox();
        shareOf0To999();
        shareIfNoneIsStuck();
        shareOfWhatIsOver();
        turns0To4();
        turnsOfAnEmptyShaft();
        turnsLeaveWide2AtLeast();
        whoOfWhichAndN();
        whoOfNoSuchRowOrPlace();
        whoOfAll();
        whoOfNone();
        whoOfEachLane();
        lostByP0To10();
        lostInLowestTerms();
        lostOfThoseThatDoNotWait();
        drawnBySeeds1To999999();
        drawnOfNoDays();
        EDGE.end();
    }

    private static LetterChute one() {
        return Check.chute("h3,9;c0,1,0;");
    }

    private static LetterChute rowOf(LetterChute x, int... items) {
        Check.row(x, 0, 2, items);
        return x;
    }

    /** Promises 19, 21 to 23, 25, 27, 30: "STATE: no HOUSE (ahead of BAD)". */
    private static void stateComesAheadOfBadWithoutAHouse() {
        for (int v : new int[] {Edge.LEAST, -2, -1, 0, 1, 41, 61, Edge.MOST}) {
            EDGE.refused("all " + v + ", no house", Scenes::noHouse, x -> x.all(v, v), STATE);
            EDGE.refused("order " + v + ", no house", Scenes::noHouse, x -> x.order(v, v), STATE);
            EDGE.refused("need " + v + ", no house", Scenes::noHouse, x -> x.need(v), STATE);
            EDGE.refused("sets " + v + ", no house", Scenes::noHouse, x -> x.sets(v, v), STATE);
            EDGE.refused("byTurns " + v + ", no house", Scenes::noHouse, x -> x.byTurns(v, v), STATE);
            EDGE.refused("drawn " + v + ", no house", Scenes::noHouse, x -> x.drawn(v, v, v), STATE);
        }
        EDGE.refused("over, no house", Scenes::noHouse, x -> x.over(), STATE);
    }

    /** Terms: "BAD (.. there is no such thing)": no letter and no floor. */
    private static void thereIsNoSuchThingWithoutAHouse() {
        EDGE.refused("ahead, no house", Scenes::noHouse, x -> x.ahead(0, 0, 0), BAD);
        EDGE.refused("full, no house", Scenes::noHouse, x -> x.full(0, 0), BAD);
        EDGE.refused("when, no house", Scenes::noHouse, x -> x.when(0, 0), BAD);
        EDGE.refused("latest, no house", Scenes::noHouse, x -> x.latest(0, 1), BAD);
        EDGE.refused("share, no house", Scenes::noHouse, x -> x.share(0, 0), BAD);
        EDGE.refused("who, no house", Scenes::noHouse, x -> x.who(0, 0, 0, 0, 1), BAD);
        EDGE.refused("who of a missing row, no house", Scenes::noHouse, x -> x.who(0, 0, 4, 0, 1), BAD);
        EDGE.refused("who of wides, no house", Scenes::noHouse, x -> x.who(0, 3, 0, 0, 1), BAD);
        EDGE.refused("lost above, no house", Scenes::noHouse, x -> x.lost(0, 0, 0, 0), BAD);
        EDGE.refused("lost below, no house", Scenes::noHouse, x -> x.lost(0, 0, 0, 1), BAD);
    }

    /** Promises 17, 20, 24, 26, 28, 29: a LETTER there is, of six and of one. */
    private static void lettersGoAsFarAsTheyWereTold() {
        Edge.Scene one = () -> rowOf(one(), 1, 10);
        Edge.CallWith[] calls = {
            (x, v) -> x.ahead(v, 0, 0), (x, v) -> x.when(v, 0), (x, v) -> x.latest(v, 1), (x, v) -> x.share(v, 0),
            (x, v) -> x.who(v, 0, 0, 0, 1), (x, v) -> x.who(v, 3, 0, 0, 1), (x, v) -> x.lost(v, 0, 0, 0),
        };
        for (int i = 0; i < calls.length; i++) {
            EDGE.bounds("LETTER of six, call " + i, Scenes::busy, 0, 5, calls[i]);
            EDGE.bounds("LETTER of one, call " + i, one, 0, 0, calls[i]);
        }
    }

    /** Promise 17: n 0 to 60, what 0 to 2. */
    private static void aheadBy0To60() {
        EDGE.bounds("ahead by n", Scenes::busy, 0, 60, (x, v) -> x.ahead(0, v, 0));
        EDGE.bounds("ahead of what", Scenes::busy, 0, 2, (x, v) -> x.ahead(0, 1, v));
        int[][] where = {{2, 21, 3, 1, 20, 20}, {1, 21, 1, 0, 5, 20}, {21, 21, 21, 21, 4, 20}, {21, 21, 21, 21, 2, 20}};
        int[][] run = {{0, 3, 0, 0, 0, 0}, {1, 3, 1, 1, 0, 0}, {2, 3, 2, 2, 1, 0}, {2, 3, 2, 2, 2, 0}};
        int[] stuck = {3, 0, 3, 3, 0, 0};
        LetterChute x = Scenes.busy();
        for (int i = 0; i < 6; i++) {
            for (int n = 0; n < 4; n++) {
                EDGE.due("where " + i + " is behind " + n, x.ahead(i, n, 0), where[n][i]);
                EDGE.due("run of " + i + " behind " + n, x.ahead(i, n, 2), run[n][i]);
            }
            EDGE.due("stuck of " + i + " behind 0", x.ahead(i, 0, 1), stuck[i]);
            EDGE.due("stuck of " + i + " behind 60", x.ahead(i, 60, 1), stuck[i]);
            EDGE.due("where " + i + " is behind 60", x.ahead(i, 60, 0), 21);
        }
        EDGE.asked("ahead changes nothing", Scenes::busy, y -> y.ahead(5, 60, 0), 21);
    }

    /** Promise 18: a FLOOR there is, n 0 to 60. */
    private static void fullBehind0To60() {
        EDGE.bounds("full of FLOOR", Scenes::busy, 0, 5, (x, v) -> x.full(v, 1));
        EDGE.bounds("full of FLOOR of three", EdgesOfForetoldTest::one, 0, 2, (x, v) -> x.full(v, 1));
        EDGE.bounds("full behind n", Scenes::busy, 0, 60, (x, v) -> x.full(0, v));
        int[][] full = {{0, 5, 4, 3, 0, 0}, {5, 7, 0, 0, 0, 2}, {0, 0, 0, 0, 2, 0}, {0, 0, 2, 0, 0, 0}};
        LetterChute x = Scenes.busy();
        for (int f = 0; f < 6; f++) {
            for (int n = 0; n < 4; n++) {
                EDGE.due("full of " + f + " behind " + n, x.full(f, n), full[n][f]);
            }
            EDGE.due("full of " + f + " behind 60", x.full(f, 60), 0);
        }
        EDGE.asked("full changes nothing", Scenes::busy, y -> y.full(5, 60), 0);
    }

    /** Promise 19: n 0 to 60, what 0, 1. */
    private static void allBehind0To60() {
        EDGE.bounds("all behind n", Scenes::busy, 0, 60, (x, v) -> x.all(v, 0));
        EDGE.bounds("all of what", Scenes::busy, 0, 1, (x, v) -> x.all(1, v));
        LetterChute x = Scenes.busy();
        int[] box = {2, 2, 15, 15, 31};
        for (int n = 0; n < 5; n++) {
            EDGE.due("the box behind " + n, x.all(n, 0), box[n]);
        }
        EDGE.due("the box behind 17", x.all(17, 0), 31);
        EDGE.due("the box behind 18", x.all(18, 0), 63);
        EDGE.due("the box behind 60", x.all(60, 0), 63);
        EDGE.due("stuck of all behind 0", x.all(0, 1), 9);
        EDGE.due("stuck of all behind 60", x.all(60, 1), 9);
        EDGE.asked("all changes nothing", Scenes::busy, y -> y.all(60, 0), 63);
    }

    /** FORETOLD is what would be; that no TICK can come behind 999 is a refusal of ticks() alone. */
    private static void beyondTick999() {
        LetterChute x = Scenes.stuckAt(999);
        x.poke(0);
        x.poke(0);
        EDGE.due("from floor 0 at tick 999", x.ahead(0, 1, 0), 21);
        EDGE.due("when, at tick 999", x.when(0, 1), 1);
        EDGE.due("over, at tick 999", x.over(), 1);
        EDGE.due("order, at tick 999", x.order(40, -1), 1);
    }

    /** Promise 20: how 0, 1; "WHEN .. behind how many TICKS (0 to 60) first". */
    private static void whenInTheShaftAndInTheBox() {
        EDGE.bounds("when of how", Scenes::busy, 0, 1, (x, v) -> x.when(5, v));
        int[] shaft = {0, 0, 0, 0, 1, 16};
        int[] box = {2, 0, 2, 2, 4, 18};
        for (int i = 0; i < 6; i++) {
            int letter = i;
            EDGE.asked("when " + i + " is in the shaft", Scenes::busy, x -> x.when(letter, 0), shaft[i]);
            EDGE.asked("when " + i + " is in the box", Scenes::busy, x -> x.when(letter, 1), box[i]);
        }
    }

    /** Promise 20: "NONE". */
    private static void whenNever() {
        LetterChute x = Check.chute("h3,2;c2,3,0;");
        EDGE.due("too thick to come in", x.when(0, 0), NONE);
        EDGE.due("too thick to come down", x.when(0, 1), NONE);
        LetterChute y = Scenes.stuckAt(2);
        EDGE.due("stuck in the shaft: it is there", y.when(0, 0), 0);
        EDGE.due("stuck in the shaft: never down", y.when(0, 1), NONE);
    }

    /** Promise 21: "OVER; NONE". */
    private static void overNowAndNever() {
        EDGE.asked("over", Scenes::busy, x -> x.over(), 18);
        LetterChute x = one();
        EDGE.due("over in 2", x.over(), 2);
        x.ticks(1);
        EDGE.due("over in 1", x.over(), 1);
        x.ticks(1);
        EDGE.due("over now", x.over(), 0);
        EDGE.due("never over", Scenes.stuckAt(2).over(), NONE);
        EDGE.due("never over, as one of two waits", Check.chute("h3,2;c2,2,0;c2,3,0;").over(), NONE);
    }

    /** Promises 20, 21, 23: "each that WAITS and whose START is TICK or less .. comes into the shaft at its FLOOR, if there is
     *  room": the latest START, the highest FLOOR, one after the other, as late as six letters are known to come down. */
    private static void whenAndOverAtTheLongest() {
        LetterChute x = Check.chute("h9,9;p8,9,20;p8,9,20;p8,9,20;p8,9,20;p8,9,20;p8,9,20;");
        for (int i = 0; i < 6; i++) {
            EDGE.due("in a queue, in the shaft, " + i, x.when(i, 0), 21 + i);
            EDGE.due("in a queue, in the box, " + i, x.when(i, 1), 30 + i);
        }
        EDGE.due("in a queue, over", x.over(), 35);
        EDGE.due("in a queue, need for just so many", x.need(35), 9);
        EDGE.due("by two at a time", x.need(34), 18);
        EDGE.due("by two at a time, just so many", x.need(32), 18);
        EDGE.due("three at a time never fit", x.need(31), NONE);
    }

    /** Promise 22: n 1 to 40. */
    private static void orderFor1To40() {
        EDGE.bounds("order for n", Scenes::busy, 1, 40, (x, v) -> x.order(v, -1));
        EDGE.bounds("order for n, a letter", Scenes::busy, 1, 40, (x, v) -> x.order(v, 0));
        EDGE.refused("order for 0, not so many either", Scenes::busy, x -> x.order(0, 6), BAD);
        EDGE.refused("order for 41, not so many either", Scenes::busy, x -> x.order(41, 6), BAD);
    }

    /** Promise 22: "how many TICKS (k = -1), the k-th (0 on; NONE: not so many). BAD: k below -1, too". */
    private static void orderOfTheKth() {
        EDGE.refused("k -2", Scenes::busy, x -> x.order(1, -2), BAD);
        EDGE.refused("k far below", Scenes::busy, x -> x.order(1, Edge.LEAST), BAD);
        for (int k = 0; k < 6; k++) {
            int place = k;
            EDGE.asked("all orders are alike, k " + k, Scenes::busy, x -> x.order(40, place), k);
        }
        EDGE.asked("k 6 of 6", Scenes::busy, x -> x.order(40, 6), NONE);
        EDGE.asked("k far above", Scenes::busy, x -> x.order(40, Edge.MOST), NONE);
        EDGE.asked("k 0 of 1", EdgesOfForetoldTest::one, x -> x.order(1, 0), 0);
        EDGE.asked("k 1 of 1", EdgesOfForetoldTest::one, x -> x.order(1, 1), NONE);
    }

    /** Terms: "n and 1 for one that is not then; 0 for one that is now". */
    private static void orderCountsNAnd1() {
        int[] fewest = {10, 12, 14, 15};
        for (int n = 1; n <= 4; n++) {
            int ticks = n;
            EDGE.asked("order for " + n, Scenes::busy, x -> x.order(ticks, -1), fewest[n - 1]);
        }
        EDGE.asked("order for 17", Scenes::busy, x -> x.order(17, -1), 28);
        EDGE.asked("order for 18", Scenes::busy, x -> x.order(18, -1), 28);
        EDGE.asked("order for 40", Scenes::busy, x -> x.order(40, -1), 28);
        EDGE.due("not down in 1 of 2", one().order(1, -1), 2);
        EDGE.due("down in 2 of 2", one().order(2, -1), 2);
        EDGE.due("never down", Scenes.stuckAt(2).order(40, -1), 41);
        EDGE.due("never down, in 1", Scenes.stuckAt(2).order(1, -1), 2);
        LetterChute none = Check.chute("h3,2;c2,3,0;c2,3,0;c2,3,0;c2,3,0;c2,3,0;c2,3,0;");
        EDGE.due("none of six is ever down: as many as there can be", none.order(40, -1), 246);
        for (int k = 0; k < 6; k++) {
            EDGE.due("and the first order, k " + k, none.order(40, k), k);
        }
        LetterChute x = one();
        x.ticks(2);
        EDGE.due("all in the box now", x.order(40, -1), 0);
        EDGE.due("an order all the same", x.order(40, 0), 0);
    }

    /** Terms: "of several the first (by numbers)". */
    private static void orderOfSeveralTheFirst() {
        LetterChute x = Check.chute("h3,2;c2,2,0;c2,2,0;c2,2,0;c2,2,0;c2,2,0;c2,2,0;");
        for (int k = 0; k < 6; k++) {
            EDGE.due("six alike, k " + k, x.order(40, k), k);
        }
        EDGE.due("six alike, 3 and 4 and .. and 8", x.order(40, -1), 33);
        LetterChute y = Check.chute("h9,9;p8,9,0;c8,9,0;c8,9,0;");
        int[] order = {1, 2, 0};
        for (int k = 0; k < 3; k++) {
            EDGE.due("the parcel last, of the cards the first first, k " + k, y.order(40, k), order[k]);
        }
        EDGE.due("6 and 7 and 12", y.order(40, -1), 25);
        y.ticks(1);
        EDGE.due("from now on: the parcel is in the shaft", y.order(40, 0), 0);
        y.undo();
        EDGE.due("as before", y.order(40, 0), 1);
    }

    /** Terms: "from now on": asked again with the same n behind each call that makes the house another. */
    private static void orderIsOfTheHouseThatStands() {
        LetterChute x = one();
        x.image(0);
        EDGE.due("a card at floor 0", x.order(9, -1), 2);
        x.ticks(1);
        EDGE.due("behind ticks", x.order(9, -1), 1);
        x.undo();
        EDGE.due("behind undo", x.order(9, -1), 2);
        x.ticks(1);
        x.poke(0);
        EDGE.due("behind poke", x.order(9, -1), 0);
        x.post(0, 2);
        EDGE.due("behind post", x.order(9, -1), 3);
        x.restore(0);
        EDGE.due("behind restore", x.order(9, -1), 2);
        Check.tell(x, "h3,9;c2,9,0;");
        EDGE.due("behind house", x.order(9, -1), 3);
        x.wide(2);
        EDGE.due("behind wide", x.order(9, -1), 10);
        EDGE.due("with another n", x.order(8, -1), 9);
    }

    /** Promise 23: n 1 to 40. */
    private static void needFor1To40() {
        EDGE.bounds("need for n", Scenes::busy, 1, 40, (x, v) -> x.need(v));
        EDGE.asked("need for 40", Scenes::busy, x -> x.need(40), 6);
        EDGE.asked("need for 18", Scenes::busy, x -> x.need(18), 6);
        EDGE.asked("need for 17: one comes too late", Scenes::busy, x -> x.need(17), NONE);
    }

    /** Terms: "the least WIDE (2 to 20)"; "NONE". */
    private static void needGoesFrom2To20() {
        EDGE.due("1 thick: 2 is the least", Check.chute("h3,20;c2,1,0;").need(40), 2);
        EDGE.due("2 thick", Check.chute("h3,20;c2,2,0;").need(40), 2);
        EDGE.due("3 thick", Check.chute("h3,20;c2,3,0;").need(40), 3);
        EDGE.due("9 thick, however wide it is now", Check.chute("h3,2;c2,9,0;").need(40), 9);
        EDGE.due("20 thick together, at once", Check.chute("h3,2;c2,9,0;c2,9,0;c2,2,0;").need(3), 20);
        EDGE.due("21 thick together, at once", Check.chute("h3,2;c2,9,0;c2,9,0;c2,3,0;").need(3), NONE);
        EDGE.due("21 thick together, with a tick more", Check.chute("h3,2;c2,9,0;c2,9,0;c2,3,0;").need(4), 12);
        EDGE.due("a slip", Check.chute("h3,20;s2,9,0;").need(3), 2);
        LetterChute x = one();
        x.ticks(2);
        EDGE.due("all in the box now", x.need(1), 2);
    }

    /** Promise 24: n 1 to 40. */
    private static void latestFor1To40() {
        EDGE.bounds("latest for n", Scenes::busy, 1, 40, (x, v) -> x.latest(5, v));
        EDGE.asked("latest for 40", Scenes::busy, x -> x.latest(5, 40), 42);
        EDGE.asked("latest for 3: now", Scenes::busy, x -> x.latest(5, 3), 5);
        EDGE.asked("latest for 2: never", Scenes::busy, x -> x.latest(5, 2), NONE);
        EDGE.asked("latest of one posted anew", Scenes::busy, x -> x.latest(4, 4), 5);
        EDGE.asked("latest of one posted anew, never", Scenes::busy, x -> x.latest(4, 3), NONE);
    }

    /** Promise 24: "BAD; STATE: it does not WAIT". */
    private static void latestOfOneThatDoesNotWait() {
        EDGE.refused("latest of one in the shaft", Scenes::busy, x -> x.latest(0, 1), STATE);
        EDGE.refused("latest of one in the box", Scenes::busy, x -> x.latest(1, 40), STATE);
        EDGE.refused("latest of one in the shaft, n 0", Scenes::busy, x -> x.latest(0, 0), BAD);
        EDGE.refused("latest of one in the box, n 41", Scenes::busy, x -> x.latest(1, 41), BAD);
    }

    /** Terms: "the latest START (0 to 99)". */
    private static void latestGoesFrom0To99() {
        EDGE.due("in 2 from tick 0", one().latest(0, 2), 0);
        EDGE.due("in 40 from tick 0", one().latest(0, 40), 38);
        int[][] due = {{60, 40, 98}, {61, 40, 99}, {62, 40, 99}, {97, 2, 97}, {98, 2, 98}, {99, 2, 99}, {100, 2, 99}, {150, 40, 99},
            {98, 3, 99}, {99, 3, 99}, {99, 1, NONE}, {150, 1, NONE}};
        for (int[] d : due) {
            LetterChute x = Check.chute("h3,2;c0,3,0;");
            for (int left = d[0]; left > 0; left -= 24) {
                x.ticks(Math.min(24, left));
            }
            x.wide(3);
            EDGE.due("latest in " + d[1] + " from tick " + d[0], x.latest(0, d[1]), d[2]);
        }
    }

    /** Promise 24: "NONE". */
    private static void latestNever() {
        EDGE.due("too thick", Check.chute("h3,2;c0,3,0;").latest(0, 40), NONE);
        EDGE.due("too soon", one().latest(0, 1), NONE);
    }

    /** Promise 25: v 0 to 54, what 0 to 2. */
    private static void setsOf0To54() {
        EDGE.bounds("sets of v", Scenes::busy, 0, 54, (x, v) -> x.sets(v, 0));
        EDGE.bounds("sets of what", Scenes::busy, 0, 2, (x, v) -> x.sets(5, v));
        LetterChute x = Check.chute("h3,9;c0,9,0;c0,9,0;c0,9,0;c0,9,0;c0,9,0;c0,9,0;");
        int[][] due = {{0, 1, 0, 0}, {9, 6, 0, 63}, {27, 20, 0, 63}, {45, 6, 0, 63}, {53, 0, 0, 0}, {54, 1, 63, 63}};
        for (int[] d : due) {
            for (int what = 0; what <= 2; what++) {
                EDGE.due("six of 9 thick, sets of " + d[0] + ", " + what, x.sets(d[0], what), d[1 + what]);
            }
        }
    }

    /** Terms: "LETTERS (bits) that are in all of these (none: 0)". */
    private static void setsOfNone() {
        for (int what = 0; what <= 2; what++) {
            int w = what;
            EDGE.asked("no set of 1, " + what, Scenes::busy, x -> x.sets(1, w), 0);
            EDGE.asked("no set of 21, " + what, Scenes::busy, x -> x.sets(21, w), 0);
            EDGE.asked("the empty set, " + what, Scenes::busy, x -> x.sets(0, w), w == 0 ? 1 : 0);
        }
    }

    /** Terms: "sets of LETTERS that are not in THE BOX". */
    private static void setsLeaveOutTheBox() {
        int[][] due = {{20, 1, 61, 61}, {2, 1, 16, 16}, {5, 2, 0, 28}, {9, 3, 0, 61}};
        for (int[] d : due) {
            for (int what = 0; what <= 2; what++) {
                int w = what;
                EDGE.asked("sets of " + d[0] + ", " + what, Scenes::busy, x -> x.sets(d[0], w), d[1 + what]);
            }
        }
        LetterChute x = one();
        x.ticks(2);
        EDGE.due("all in the box: the empty set alone", x.sets(0, 0), 1);
        EDGE.due("all in the box: none of 1", x.sets(1, 0), 0);
    }

    /** Promise 26: n 0 to 999. */
    private static void shareOf0To999() {
        EDGE.bounds("share of n", Scenes::busy, 0, 999, (x, v) -> x.share(0, v));
        int[] stuck = {1, 0, 1, 1, 0, 0};
        for (int i = 0; i < 6; i++) {
            int letter = i;
            EDGE.asked("share of 0 for " + i, Scenes::busy, x -> x.share(letter, 0), 0);
            EDGE.asked("share of 999 for " + i, Scenes::busy, x -> x.share(letter, 999), 333 * stuck[i]);
        }
    }

    /** Terms: "(0, if none did)". */
    private static void shareIfNoneIsStuck() {
        EDGE.asked("none is stuck", EdgesOfForetoldTest::one, x -> x.share(0, 999), 0);
    }

    /** Terms: "what is over 1 each to the first ones that STUCK at all". */
    private static void shareOfWhatIsOver() {
        int[][] due = {{1, 1, 0, 0}, {2, 1, 1, 0}, {3, 1, 1, 1}, {10, 4, 3, 3}, {11, 4, 4, 3}, {997, 333, 332, 332}, {998, 333, 333, 332}};
        int[] stuck = {0, 2, 3};
        for (int[] d : due) {
            for (int i = 0; i < 3; i++) {
                int letter = stuck[i];
                EDGE.asked("share of " + d[0] + " for " + letter, Scenes::busy, x -> x.share(letter, d[0]), d[1 + i]);
            }
            EDGE.asked("share of " + d[0] + " for one that is not stuck", Scenes::busy, x -> x.share(1, d[0]), 0);
        }
        LetterChute x = Scenes.busy();
        x.poke(3);
        x.poke(3);
        EDGE.due("one that is in the box keeps its share", x.share(3, 10), 3);
        LetterChute y = Check.chute("h4,9;s3,1,0;c3,4,0;c2,4,0;c1,4,0;");
        y.ticks(1);
        y.wide(3);
        y.ticks(1);
        int[] once = {0, 2, 2, 1};
        for (int i = 0; i < 4; i++) {
            EDGE.due("stuck once each, but the slip: share of 5 for " + i, y.share(i, 5), once[i]);
        }
        EDGE.due("stuck once, and none else", Scenes.stuckAt(2).share(0, 999), 999);
    }

    /** Promise 27: n 0 to 4, m 1 to 20. */
    private static void turns0To4() {
        EDGE.bounds("byTurns n", Scenes::busy, 0, 4, (x, v) -> x.byTurns(v, 1));
        EDGE.bounds("byTurns m", Scenes::busy, 1, 20, (x, v) -> x.byTurns(1, v));
        EDGE.asked("no turn, 1 tick", Scenes::busy, x -> x.byTurns(0, 1), 1);
        EDGE.asked("no turn, 2 ticks", Scenes::busy, x -> x.byTurns(0, 2), 4);
        EDGE.asked("no turn, 17 ticks", Scenes::busy, x -> x.byTurns(0, 17), 5);
        EDGE.asked("no turn, 18 ticks", Scenes::busy, x -> x.byTurns(0, 18), 6);
        EDGE.asked("the porter pokes the parcel, so it is down, too, in 1", Scenes::busy, x -> x.byTurns(1, 1), 2);
        LetterChute x = Check.chute("h9,9;p8,1,0;");
        x.ticks(7);
        EDGE.due("a parcel at floor 2, no poke", x.byTurns(0, 2), 0);
        EDGE.due("a poke", x.byTurns(1, 2), 1);
        x.undo();
        EDGE.due("at floor 3, a poke", x.byTurns(1, 2), 0);
        EDGE.due("a poke, and the boy", x.byTurns(2, 2), 0);
        EDGE.due("two pokes", x.byTurns(3, 2), 1);
        EDGE.due("two pokes, and the boy twice", x.byTurns(4, 2), 1);
    }

    private static void turnsOfAnEmptyShaft() {
        for (int n = 0; n <= 4; n++) {
            EDGE.due("all wait, " + n + " turns, 1 tick", one().byTurns(n, 1), 0);
            EDGE.due("all wait, " + n + " turns, 2 ticks", one().byTurns(n, 2), 1);
            LetterChute x = one();
            x.ticks(2);
            EDGE.due("all in the box, " + n + " turns", x.byTurns(n, 1), 1);
        }
        LetterChute y = Check.chute("h3,2;c2,2,0;");
        EDGE.due("the boy cannot make it less than 2", y.byTurns(4, 3), 1);
        LetterChute z = Check.chute("h3,3;c2,3,0;");
        EDGE.due("the porter alone", z.byTurns(1, 3), 1);
        EDGE.due("the boy makes it 2", z.byTurns(2, 3), 0);
    }

    /** Terms: "the boy makes WIDE 1 less (2 at least)". */
    private static void turnsLeaveWide2AtLeast() {
        for (int wide = 2; wide <= 5; wide++) {
            for (int thick = 1; thick <= 5; thick++) {
                LetterChute x = Check.chute("h3," + wide + ";c2," + thick + ",0;");
                for (int n = 0; n <= 4; n++) {
                    int left = Math.max(2, wide - n / 2);
                    EDGE.due(thick + " thick, " + wide + " wide, " + n + " turns", x.byTurns(n, 3), thick <= left ? 1 : 0);
                }
            }
        }
    }

    /** Promise 28: which 0 to 4, n 1 to 12. */
    private static void whoOfWhichAndN() {
        EDGE.bounds("who of which", Scenes::busy, 0, 4, (x, v) -> x.who(0, v, 0, 0, 1));
        EDGE.bounds("who of n", Scenes::busy, 1, 12, (x, v) -> x.who(0, 0, 0, 0, v));
        EDGE.bounds("who of n, beyond the end", Scenes::busy, 1, 12, (x, v) -> x.who(0, 0, 0, 12, v));
        EDGE.bounds("who of n, of a missing row", Scenes::busy, 1, 12, (x, v) -> x.who(0, 0, 4, 0, v));
        EDGE.refused("who of which 5, of a missing row", Scenes::busy, x -> x.who(0, 5, 4, 0, 1), BAD);
        EDGE.refused("who of letter 6, of a missing row", Scenes::busy, x -> x.who(6, 0, 4, 0, 1), BAD);
        EDGE.refused("who of row 8, no such place either", Scenes::busy, x -> x.who(0, 0, 8, -1, 1), BAD);
    }

    /** Promise 28: "NULL; PLACE". */
    private static void whoOfNoSuchRowOrPlace() {
        EDGE.found("who of a missing row", Scenes::busy, x -> x.who(0, 0, 4, 0, 1), NULL);
        EDGE.found("who of a missing row, no such place either", Scenes::busy, x -> x.who(0, 0, 4, -1, 12), NULL);
        for (int which = 0; which <= 4; which++) {
            int w = which;
            EDGE.found("who from -1, " + which, Scenes::busy, x -> x.who(0, w, 0, -1, 1), PLACE);
            EDGE.found("who of 12 from 1, " + which, Scenes::busy, x -> x.who(0, w, 0, 1, 12), PLACE);
        }
        EDGE.found("who from 12 of 12", Scenes::busy, x -> x.who(0, 0, 0, 12, 1), PLACE);
        EDGE.found("who from 29 of 40", Scenes::busy, x -> x.who(0, 0, 7, 29, 12), PLACE);
        EDGE.found("who far below", Scenes::busy, x -> x.who(0, 0, 0, Edge.LEAST, 1), PLACE);
        EDGE.found("who that wraps around", Scenes::busy, x -> x.who(0, 0, 0, Edge.MOST, 12), PLACE);
        EDGE.found("who of an empty row", Scenes::busy, x -> x.who(0, 0, 3, 0, 1), PLACE);
        EDGE.asked("who from 11 of 12", Scenes::busy, x -> x.who(0, 0, 0, 11, 1), 0);
        EDGE.asked("who from 28 of 40", Scenes::busy, x -> x.who(0, 0, 7, 28, 12), 0);
    }

    /** Terms: "KINDS (bits 1 to 5), THICKS (1 to 9, bits), FLOORS (bits)", "WIDES (2 to 20)": all that can be. */
    private static void whoOfAll() {
        int[] all = {62, 1022, 7, 19, 2};
        for (int floors = 3; floors <= 9; floors++) {
            LetterChute x = Check.chute("h" + floors + ",9;c1,1,12;");
            rowOf(x, 0, 0, 0, 0, 0, 0, 0, 0, 0, 0, 0, 0);
            for (int which = 0; which <= 4; which++) {
                EDGE.due("nothing has come yet, " + floors + " floors, " + which, x.who(0, which, 0, 0, 12),
                    which == 2 ? (1 << floors) - 1 : all[which]);
            }
        }
        for (int which = 0; which <= 4; which++) {
            int due = which == 2 ? 63 : all[which];
            int w = which;
            if (which < 3) {
                EDGE.asked("of one that still waits, " + which, Scenes::busy, x -> x.who(5, w, 0, 0, 12), due);
                EDGE.asked("of one in the box, " + which, Scenes::busy, x -> x.who(1, w, 0, 0, 12), due);
            }
        }
        LetterChute y = one();
        y.ticks(2);
        rowOf(y, 10);
        for (int which = 0; which <= 4; which++) {
            EDGE.due("all in the box, " + which, y.who(0, which, 0, 0, 1), all[which]);
        }
    }

    /** Promise 28: "WIDES (3 how many, 4 the least; NONE)". */
    private static void whoOfNone() {
        for (int told : new int[] {0, 2, 9, 10, 11, 21, -1, Edge.LEAST, Edge.MOST}) {
            LetterChute x = rowOf(Check.chute("h3,9;c2,1,0;"), told);
            for (int which = 0; which <= 3; which++) {
                EDGE.due("it was " + told + ", and not 1, " + which, x.who(0, which, 0, 0, 1), 0);
            }
            EDGE.due("it was " + told + ", and not 1, the least", x.who(0, 4, 0, 0, 1), NONE);
            EDGE.due("nothing was found about the row", x.status(), 0);
        }
        LetterChute y = rowOf(Check.chute("h3,9;c2,9,0;"), 1, 1, 10);
        EDGE.due("9 thick: 12 wides", y.who(0, 3, 0, 0, 3), 12);
        EDGE.due("9 thick: 9 is the least", y.who(0, 4, 0, 0, 3), 9);
        LetterChute z = rowOf(Check.chute("h3,2;c2,9,0;c2,9,0;c2,2,0;"), 3, 3, 30);
        EDGE.due("20 thick together: one wide", z.who(0, 3, 0, 0, 3), 1);
        EDGE.due("20 thick together: 20", z.who(0, 4, 0, 0, 3), 20);
    }

    /** Rows of all lanes tell alike, and what is cut off is not told. */
    private static void whoOfEachLane() {
        for (int lane = 0; lane <= 2; lane++) {
            LetterChute x = Check.chute("h3,5;c2,5,0;");
            Check.row(x, 0, lane, 1 + 65536, 1 + 65536, 10 + 65536);
            EDGE.due("with 65536 more, lane " + lane, x.who(0, 1, 0, 0, 3), lane < 2 ? 62 : 0);
        }
    }

    /** Promise 29: n 0 to 60, p 0 to 10, what 0, 1. */
    private static void lostByP0To10() {
        EDGE.bounds("lost in n", Scenes::busy, 0, 60, (x, v) -> x.lost(0, v, 5, 0));
        EDGE.bounds("lost by p", Scenes::busy, 0, 10, (x, v) -> x.lost(0, 1, v, 0));
        EDGE.bounds("lost, what", Scenes::busy, 0, 1, (x, v) -> x.lost(0, 1, 5, v));
        lost("never lost", 5, 18, 0, 1, 1);
        lost("always lost", 5, 18, 10, 0, 1);
        lost("too soon", 5, 17, 0, 0, 1);
        lost("lost by 1", 5, 60, 1, 9, 10);
        lost("lost by 9", 5, 60, 9, 1, 10);
    }

    private static void lost(String name, int letter, int n, int p, long above, long below) {
        EDGE.asked(name + ", above", Scenes::busy, x -> x.lost(letter, n, p, 0), above);
        EDGE.asked(name + ", below", Scenes::busy, x -> x.lost(letter, n, p, 1), below);
    }

    /** Terms: "fractions, told as two numbers in lowest terms (0 is 0 by 1)". */
    private static void lostInLowestTerms() {
        lost("half", 4, 4, 5, 1, 2);
        lost("two fifths", 4, 4, 6, 2, 5);
        lost("3 by 10", 4, 4, 7, 3, 10);
        lost("0 by 1", 4, 3, 5, 0, 1);
        LetterChute x = Check.chute("h3,9;c0,9,0;c0,9,0;c0,9,0;c0,9,0;c0,9,0;c0,9,0;");
        EDGE.due("only if five are lost, above", x.lost(5, 2, 9, 0), 59049);
        EDGE.due("only if five are lost, below", x.lost(5, 2, 9, 1), 1000000);
        EDGE.due("by half, above", x.lost(5, 2, 5, 0), 1);
        EDGE.due("by half, below", x.lost(5, 2, 5, 1), 64);
    }

    /** Terms: "each LETTER that WAITS is never posted in p of 10 cases": of the others none is. */
    private static void lostOfThoseThatDoNotWait() {
        lost("in the box", 1, 0, 10, 1, 1);
        lost("in the shaft, not down yet", 0, 1, 10, 0, 1);
        lost("in the shaft, down", 0, 2, 10, 1, 1);
        lost("in the shaft, down, by 5", 3, 60, 5, 1, 1);
        LetterChute x = one();
        EDGE.due("behind 0 ticks", x.lost(0, 0, 5, 0), 0);
        x.ticks(1);
        EDGE.due("in the shaft it is posted", x.lost(0, 1, 10, 0), 1);
        x.ticks(1);
        x.post(0, 2);
        EDGE.due("posted anew it may be lost", x.lost(0, 60, 10, 0), 0);
        EDGE.due("posted anew it may be lost, below", x.lost(0, 60, 3, 1), 10);
    }

    /** Promise 30: n 0 to 60, SEED 1 to 999999, what 0, 1. */
    private static void drawnBySeeds1To999999() {
        EDGE.bounds("drawn of n", Scenes::busy, 0, 60, (x, v) -> x.drawn(v, 1, 0));
        EDGE.bounds("drawn by SEED", Scenes::busy, 1, 999999, (x, v) -> x.drawn(1, v, 0));
        EDGE.bounds("drawn of what", Scenes::busy, 0, 1, (x, v) -> x.drawn(1, 1, v));
        LetterChute x = Check.chute("h3,9;c2,3,0;");
        x.ticks(1);
        x.wide(2);
        EDGE.due("by seed 999999 the first draw, 1774597664, makes it 3 wide", x.drawn(1, 999999, 1), 0);
        EDGE.due("by seed 999998 it is odd", x.drawn(1, 999998, 1), 1);
        EDGE.due("by seed 1 it is 16807, odd", x.drawn(1, 1, 1), 1);
        EDGE.due("by seed 2 it is 33614, and leaves 2 by 4", x.drawn(1, 2, 1), 1);
        EDGE.due("by seed 4 it is 67228, and makes it 8 wide", x.drawn(1, 4, 1), 0);
        EDGE.due("by seed 1 the first five leave it", x.drawn(5, 1, 1), 5);
        EDGE.due("the sixth, 470211272, makes it 15 wide", x.drawn(7, 1, 1), 5);
        EDGE.due("so it is down by the seventh", x.drawn(7, 1, 0), 1);
        EDGE.due("and posted anew ahead of the eighth", x.drawn(8, 1, 1), 0);
    }

    private static void drawnOfNoDays() {
        EDGE.asked("no days, none came", Scenes::busy, x -> x.drawn(0, 1, 0), 0);
        EDGE.asked("no days, stuck as now", Scenes::busy, x -> x.drawn(0, 999999, 1), 9);
    }
}
