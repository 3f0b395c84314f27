/** Promises 17 to 30. */
public final class ForetoldTest {
    private static final int BAD = LetterChute.BAD, STATE = LetterChute.STATE, NONE = LetterChute.NONE;
    private static final Check CHECK = new Check();

    public static void main(String[] args) {
        withoutAHouse();
        whatLiesAhead();
        whenAndOver();
        orders();
        needs();
        latestStarts();
        setsSoThick();
        sharesOfStamps();
        turnsOfTwo();
        whoItIs();
        lostOnes();
        daysByDraws();
        nothingChanges();
        CHECK.end();
    }

    private static void withoutAHouse() {
        LetterChute x = new LetterChute();
        x.row(0, 0, 1);
        CHECK.due("ahead, no house", x.ahead(0, 0, 0), BAD);
        CHECK.due("full, no house", x.full(0, 0), BAD);
        CHECK.due("all(61), no house", x.all(61, 0), STATE);
        CHECK.due("when, no house", x.when(0, 0), BAD);
        CHECK.due("over, no house", x.over(), STATE);
        CHECK.due("order(0), no house", x.order(0, -2), STATE);
        CHECK.due("need(0), no house", x.need(0), STATE);
        CHECK.due("latest, no house", x.latest(0, 1), BAD);
        CHECK.due("sets(-1), no house", x.sets(-1, 0), STATE);
        CHECK.due("share, no house", x.share(0, 0), BAD);
        CHECK.due("byTurns(5), no house", x.byTurns(5, 0), STATE);
        CHECK.due("who, no house", x.who(0, 0, 0, 0, 1), BAD);
        CHECK.due("lost, no house", x.lost(0, 0, 0, 0), BAD);
        CHECK.due("drawn(61), no house", x.drawn(61, 0, 0), STATE);
    }

    private static void whatLiesAhead() {
        LetterChute x = Check.chute("h5,5;r4,4,0;c4,3,0;");
        int[] roll = {20, 4, 3, 1, 21, 21};
        int[] runs = {0, 0, 1, 2, 3, 3};
        int[] card = {20, 20, 4, 2, 0, 21};
        for (int n = 0; n < 6; n++) {
            CHECK.due("the roll behind " + n, x.ahead(0, n, 0), roll[n]);
            CHECK.due("its run behind " + n, x.ahead(0, n, 2), runs[n]);
            CHECK.due("the card behind " + n, x.ahead(1, n, 0), card[n]);
            CHECK.due("the box behind " + n, x.all(n, 0), n < 4 ? 0 : n < 5 ? 1 : 3);
        }
        CHECK.due("full 4 now", x.full(4, 0), 0);
        CHECK.due("full 4 behind 1", x.full(4, 1), 4);
        CHECK.due("full 4 behind 2", x.full(4, 2), 3);
        CHECK.due("full 1 behind 3", x.full(1, 3), 4);
        CHECK.due("full 1 behind 60", x.full(1, 60), 0);
        x.ticks(2);
        x.wide(3);
        CHECK.due("stuck ahead", x.ahead(0, 7, 1), 7);
        CHECK.due("stuck, run 0", x.ahead(0, 7, 2), 0);
        CHECK.due("stuck of all, with the card above", x.all(7, 1), 14);
        CHECK.due("stuck of all now", x.all(0, 1), 0);
        CHECK.due("ahead of 2", x.ahead(2, 0, 0), BAD);
        CHECK.due("ahead by -1", x.ahead(0, -1, 0), BAD);
        CHECK.due("ahead by 61", x.ahead(0, 61, 0), BAD);
        CHECK.due("ahead what 3", x.ahead(0, 0, 3), BAD);
        CHECK.due("full of 5", x.full(5, 0), BAD);
        CHECK.due("full behind 61", x.full(0, 61), BAD);
        CHECK.due("full behind -1", x.full(0, -1), BAD);
        CHECK.due("all behind 61", x.all(61, 0), BAD);
        CHECK.due("all behind -1", x.all(-1, 0), BAD);
        CHECK.due("all what 2", x.all(0, 2), BAD);
    }

    private static void whenAndOver() {
        LetterChute x = Check.chute("h3,5;c2,5,0;c2,5,0;p1,1,20;");
        CHECK.due("0 in the shaft", x.when(0, 0), 1);
        CHECK.due("0 in the box", x.when(0, 1), 3);
        CHECK.due("1 in the shaft", x.when(1, 0), 2);
        CHECK.due("1 in the box", x.when(1, 1), 4);
        CHECK.due("2 in the shaft", x.when(2, 0), 21);
        CHECK.due("2 in the box", x.when(2, 1), 23);
        CHECK.due("over", x.over(), 23);
        x.ticks(3);
        CHECK.due("0 is in the box: as if in the shaft", x.when(0, 0), 0);
        CHECK.due("0 is in the box", x.when(0, 1), 0);
        CHECK.due("1 is in the shaft", x.when(1, 0), 0);
        CHECK.due("when of 3", x.when(3, 0), BAD);
        CHECK.due("when how 2", x.when(0, 2), BAD);
        CHECK.due("when how -1", x.when(0, -1), BAD);
        x.wide(4);
        CHECK.due("1, at floor 0, goes on", x.when(1, 1), 1);
        x.ticks(24);
        CHECK.due("over now", x.over(), 0);
        x.post(0, 2);
        CHECK.due("too thick to come in", x.when(0, 0), NONE);
        CHECK.due("too thick to come down", x.when(0, 1), NONE);
        CHECK.due("never over", x.over(), NONE);

        LetterChute y = Check.chute("h3,2;c2,9,0;c0,1,20;");
        CHECK.due("never in the shaft", y.when(0, 0), NONE);
        CHECK.due("in the shaft behind 21", y.when(1, 0), 21);
    }

    private static void orders() {
        LetterChute x = Check.chute("h3,3;s2,3,0;c2,1,0;");
        CHECK.due("the card first: 3 and 3", x.order(9, -1), 6);
        CHECK.due("first", x.order(9, 0), 1);
        CHECK.due("second", x.order(9, 1), 0);
        CHECK.due("there is no third", x.order(9, 2), NONE);
        CHECK.due("nor any later", x.order(9, Integer.MAX_VALUE), NONE);
        CHECK.due("in 2 ticks none comes down, so 3 each", x.order(2, -1), 6);
        CHECK.due("and the first order is as good", x.order(2, 0), 0);
        CHECK.due("in 1 tick, 2 each", x.order(1, -1), 4);
        CHECK.due("in 40 ticks", x.order(40, -1), 6);
        CHECK.due("k -2", x.order(9, -2), BAD);
        CHECK.due("n 0", x.order(0, -1), BAD);
        CHECK.due("n 41", x.order(41, -1), BAD);
        CHECK.due("n 41 with k beyond", x.order(41, 7), BAD);
        x.ticks(1);
        CHECK.due("from now on only the card waits", x.order(9, -1), 5);
        CHECK.due("so all orders are alike", x.order(9, 0), 0);
        x.undo();
        CHECK.due("as before", x.order(9, 0), 1);
        x.wide(4);
        CHECK.due("wider, the first is as good", x.order(9, -1), 6);
        CHECK.due("the first", x.order(9, 0), 0);
        x.ticks(20);
        CHECK.due("all in the box now", x.order(9, -1), 0);
        Check.tell(x, "h3,3;s2,3,0;c2,1,0;c0,9,0;");
        CHECK.due("one that never comes counts n and 1", x.order(9, -1), 16);
        CHECK.due("the first of those that are as good", x.order(9, 0), 1);
        CHECK.due("the second of it", x.order(9, 1), 0);
        CHECK.due("the third of it", x.order(9, 2), 2);
    }

    private static void needs() {
        LetterChute x = Check.chute("h3,2;c2,5,0;c2,4,0;");
        CHECK.due("need in 3", x.need(3), 9);
        CHECK.due("need in 4", x.need(4), 5);
        CHECK.due("need in 2", x.need(2), NONE);
        CHECK.due("need in 40", x.need(40), 5);
        CHECK.due("need in 0", x.need(0), BAD);
        CHECK.due("need in 41", x.need(41), BAD);
        Check.tell(x, "h3,2;s2,9,0;");
        CHECK.due("a slip needs none", x.need(3), 2);
        Check.tell(x, "h3,2;c2,9,0;c2,9,0;c2,9,0;");
        CHECK.due("three beside each other are too much", x.need(3), NONE);
        x.wide(9);
        x.ticks(9);
        CHECK.due("all down: the least", x.need(1), 2);
        Check.tell(x, "h3,2;c2,9,0;c2,9,0;c2,2,0;");
        CHECK.due("20 at most", x.need(3), 20);
    }

    private static void latestStarts() {
        LetterChute x = Check.chute("h3,9;c2,1,5;c0,9,0;");
        CHECK.due("latest in 10", x.latest(0, 10), 7);
        CHECK.due("latest in 3", x.latest(0, 3), 0);
        CHECK.due("latest in 2", x.latest(0, 2), NONE);
        CHECK.due("latest in 40", x.latest(0, 40), 37);
        CHECK.due("latest in 41", x.latest(0, 41), BAD);
        CHECK.due("latest in 0", x.latest(0, 0), BAD);
        CHECK.due("latest of 2", x.latest(2, 9), BAD);
        x.ticks(1);
        CHECK.due("one in the shaft", x.latest(1, 9), STATE);
        CHECK.due("latest in 10 from tick 1", x.latest(0, 10), 8);
        x.ticks(1);
        CHECK.due("one in the box", x.latest(1, 9), STATE);

        LetterChute y = Check.chute("h3,2;c0,9,0;");
        for (int i = 0; i < 4; i++) {
            y.ticks(20);
        }
        CHECK.due("no room", y.latest(0, 40), NONE);
        y.wide(9);
        CHECK.due("99 at most", y.latest(0, 40), 99);
        CHECK.due("behind tick 80", y.latest(0, 2), 80);
        CHECK.due("in 1", y.latest(0, 1), NONE);
        y.wide(2);
        y.ticks(24);
        y.wide(9);
        CHECK.due("99 at most behind tick 104", y.latest(0, 2), 99);
        CHECK.due("in 1 behind tick 104", y.latest(0, 1), NONE);
    }

    private static void setsSoThick() {
        LetterChute x = Check.chute("h3,20;c0,2,0;c0,3,1;c0,5,1;");
        int[][] want = {{0, 1, 0, 0}, {1, 0, 0, 0}, {5, 2, 0, 7}, {8, 1, 6, 6}, {10, 1, 7, 7}, {54, 0, 0, 0}};
        for (int[] w : want) {
            for (int what = 0; what <= 2; what++) {
                CHECK.due("sets " + w[0] + ", " + what, x.sets(w[0], what), w[1 + what]);
            }
        }
        CHECK.due("sets -1", x.sets(-1, 0), BAD);
        CHECK.due("sets 55", x.sets(55, 0), BAD);
        CHECK.due("sets what 3", x.sets(0, 3), BAD);
        CHECK.due("sets what -1", x.sets(0, -1), BAD);
        x.ticks(2);
        CHECK.due("0 is in the box", x.stand(4), 1);
        CHECK.due("so one set of 5 is left", x.sets(5, 0), 1);
        CHECK.due("in all of them", x.sets(5, 1), 4);
        CHECK.due("in any of them", x.sets(5, 2), 4);
        CHECK.due("the empty set", x.sets(0, 0), 1);
    }

    private static void sharesOfStamps() {
        LetterChute x = Check.chute("h3,5;c2,5,0;c1,5,0;c0,5,1;");
        CHECK.due("none is stuck", x.share(0, 10), 0);
        LetterChute once = Check.chute("h3,5;c2,5,0;c0,1,0;");
        once.ticks(1);
        once.wide(4);
        once.ticks(1);
        CHECK.due("one is stuck once, and gets all", once.share(0, 10), 10);
        CHECK.due("the other gets none", once.share(1, 10), 0);
        x.ticks(1);
        x.wide(4);
        x.ticks(1);
        x.poke(1);
        x.ticks(1);
        CHECK.due("0 stuck twice", x.letter(0, 4), 2);
        CHECK.due("1 stuck once", x.letter(1, 4), 1);
        int[][] want = {{0, 0, 0}, {1, 1, 0}, {3, 2, 1}, {10, 7, 3}, {11, 8, 3}, {999, 666, 333}};
        for (int[] w : want) {
            CHECK.due("share of " + w[0] + " for 0", x.share(0, w[0]), w[1]);
            CHECK.due("share of " + w[0] + " for 1", x.share(1, w[0]), w[2]);
            CHECK.due("share of " + w[0] + " for 2", x.share(2, w[0]), 0);
        }
        CHECK.due("share of 1000", x.share(0, 1000), BAD);
        CHECK.due("share of -1", x.share(0, -1), BAD);
        CHECK.due("share for 3", x.share(3, 1), BAD);

        LetterChute y = Check.chute("h5,9;s4,1,0;c3,5,0;p2,6,0;r1,7,0;");
        y.ticks(1);
        y.wide(4);
        y.ticks(1);
        int[] eleven = {0, 4, 4, 3};
        for (int i = 0; i < 4; i++) {
            CHECK.due("what is over goes to those stuck, share for " + i, y.share(i, 11), eleven[i]);
        }
    }

    private static void turnsOfTwo() {
        LetterChute x = Check.chute("h3,5;c2,5,0;");
        CHECK.due("one that waits cannot be poked", x.byTurns(1, 2), 0);
        CHECK.due("in 3 it is down", x.byTurns(0, 3), 1);
        CHECK.due("the boy makes it too narrow", x.byTurns(2, 3), 0);
        x.ticks(1);
        CHECK.due("no turns, 1 tick", x.byTurns(0, 1), 0);
        CHECK.due("no turns, 2 ticks", x.byTurns(0, 2), 1);
        CHECK.due("poked, 1 tick", x.byTurns(1, 1), 1);
        CHECK.due("the boy narrows it", x.byTurns(2, 2), 0);
        CHECK.due("the porter pokes again", x.byTurns(3, 2), 1);
        CHECK.due("the boy comes too late", x.byTurns(4, 2), 1);
        CHECK.due("turns 5", x.byTurns(5, 2), BAD);
        CHECK.due("turns -1", x.byTurns(-1, 2), BAD);
        CHECK.due("ticks 0", x.byTurns(0, 0), BAD);
        CHECK.due("ticks 21", x.byTurns(0, 21), BAD);

        LetterChute y = Check.chute("h3,2;c2,2,0;");
        y.ticks(1);
        CHECK.due("2 wide at least", y.byTurns(2, 1), 1);

        LetterChute z = Check.chute("h3,4;p0,1,0;");
        z.ticks(1);
        CHECK.due("poked into the box", z.byTurns(1, 1), 1);

        LetterChute six = Check.chute("h3,20;c0,1,0;c0,1,0;c0,1,0;c0,1,0;c0,1,0;c2,1,0;");
        six.ticks(1);
        CHECK.due("five of six", six.byTurns(0, 1), 5);
        CHECK.due("all six", six.byTurns(1, 1), 6);
    }

    private static void whoItIs() {
        LetterChute x = Check.chute("h3,5;c2,5,0;");
        Check.row(x, 0, 0, 9, 1, 1, 10, 11);
        CHECK.due("kinds: all but a parcel", x.who(0, 0, 0, 1, 3), 46);
        CHECK.due("thicks: up to 5", x.who(0, 1, 0, 1, 3), 62);
        CHECK.due("floors: 2", x.who(0, 2, 0, 1, 3), 4);
        CHECK.due("wides: from 5 on", x.who(0, 3, 0, 1, 3), 16);
        CHECK.due("the least wide", x.who(0, 4, 0, 1, 3), 5);
        CHECK.due("no kind", x.who(0, 0, 0, 2, 3), 0);
        CHECK.due("no thick", x.who(0, 1, 0, 2, 3), 0);
        CHECK.due("no floor", x.who(0, 2, 0, 2, 3), 0);
        CHECK.due("no wide", x.who(0, 3, 0, 2, 3), 0);
        CHECK.due("no least", x.who(0, 4, 0, 2, 3), NONE);
        CHECK.due("letter 1", x.who(1, 0, 0, 0, 1), BAD);
        CHECK.due("which 5", x.who(0, 5, 0, 0, 1), BAD);
        CHECK.due("which -1", x.who(0, -1, 0, 0, 1), BAD);
        CHECK.due("row 8", x.who(0, 0, 8, 0, 1), BAD);
        CHECK.due("n 0", x.who(0, 0, 0, 0, 0), BAD);
        CHECK.due("n 13, row missing", x.who(0, 0, 1, 0, 13), BAD);
        CHECK.due("row missing, no place either", x.who(0, 0, 1, -1, 12), -1000011);
        CHECK.due("i -1", x.who(0, 0, 0, -1, 1), -1000012);
        CHECK.due("beyond the end", x.who(0, 0, 0, 3, 3), -1000012);
        CHECK.due("far beyond the end", x.who(0, 0, 0, Integer.MAX_VALUE, 12), -1000012);
        x.ticks(1);
        CHECK.due("floors, in the shaft: any, for it is posted", x.who(0, 2, 0, 2, 2), 7);
        CHECK.due("thicks, in the shaft: what lies there stays", x.who(0, 1, 0, 2, 2), 62);
        Check.row(x, 1, 2, 1, 1, 1, 1, 1, 1, 1, 1, 1, 1, 1, 1);
        CHECK.due("stuck for 12 ticks, if 6 or thicker", x.who(0, 1, 1, 0, 12), 960);
        CHECK.due("stuck for 12 ticks, if 4 or narrower", x.who(0, 3, 1, 0, 12), 3);
        CHECK.due("the least", x.who(0, 4, 1, 0, 12), 2);

        LetterChute y = Check.chute("h4,5;p1,2,0;c2,3,0;");
        y.ticks(1);
        Check.row(y, 0, 0, 2, 20, 2, 11, 2, 2);
        CHECK.due("both come down, if the lower one is 5 at most", y.who(0, 1, 0, 0, 2), 62);
        CHECK.due("the upper one never passes it", y.who(0, 1, 0, 2, 2), 0);
        CHECK.due("both are stuck, if it is thicker", y.who(0, 1, 0, 4, 2), 960);
    }

    private static void lost(LetterChute x, int letter, int n, int p, long above, long below) {
        String name = "lost " + letter + " in " + n + " by " + p;
        CHECK.due(name + ", above", x.lost(letter, n, p, 0), above);
        CHECK.due(name + ", below", x.lost(letter, n, p, 1), below);
    }

    private static void lostOnes() {
        LetterChute x = Check.chute("h3,5;c2,5,0;c2,5,0;");
        lost(x, 1, 3, 5, 1, 4);
        lost(x, 1, 4, 5, 1, 2);
        lost(x, 1, 3, 3, 21, 100);
        lost(x, 1, 3, 0, 0, 1);
        lost(x, 1, 4, 0, 1, 1);
        lost(x, 1, 60, 10, 0, 1);
        lost(x, 0, 3, 1, 9, 10);
        lost(x, 0, 0, 1, 0, 1);
        CHECK.due("lost 2", x.lost(2, 0, 0, 0), BAD);
        CHECK.due("lost in 61", x.lost(0, 61, 0, 0), BAD);
        CHECK.due("lost in -1", x.lost(0, -1, 0, 0), BAD);
        CHECK.due("lost by 11", x.lost(0, 0, 11, 0), BAD);
        CHECK.due("lost by -1", x.lost(0, 0, -1, 0), BAD);
        CHECK.due("lost what 2", x.lost(0, 0, 0, 2), BAD);
        CHECK.due("lost what -1", x.lost(0, 0, 0, -1), BAD);
        x.ticks(1);
        lost(x, 0, 2, 9, 1, 1);
        lost(x, 1, 3, 9, 1, 10);
        x.ticks(2);
        lost(x, 0, 0, 10, 1, 1);

        LetterChute y = Check.chute("h3,9;c0,9,0;c0,9,0;c0,9,0;c0,9,0;c0,9,0;c0,9,0;");
        lost(y, 5, 2, 1, 9, 1000000);
        lost(y, 5, 7, 1, 9, 10);
        lost(y, 5, 6, 1, 900000 - 9 * 9 * 9 * 9 * 9 * 9, 1000000);
    }

    private static void daysByDraws() {
        LetterChute x = Check.chute("h3,9;c0,1,0;");
        int[] came = {0, 0, 1, 1, 1, 2};
        for (int n = 0; n < 6; n++) {
            CHECK.due("came in " + n, x.drawn(n, 1, 0), came[n]);
            CHECK.due("stuck in " + n, x.drawn(n, 1, 1), 0);
        }
        CHECK.due("61 days", x.drawn(61, 1, 0), BAD);
        CHECK.due("-1 days", x.drawn(-1, 1, 0), BAD);
        CHECK.due("seed 0", x.drawn(1, 0, 0), BAD);
        CHECK.due("seed 1000000", x.drawn(1, 1000000, 0), BAD);
        CHECK.due("seed 999999", x.drawn(0, 999999, 0), 0);
        CHECK.due("what 2", x.drawn(1, 1, 2), BAD);
        CHECK.due("what -1", x.drawn(1, 1, -1), BAD);

        LetterChute y = Check.chute("h9,9;p8,9,0;");
        y.ticks(1);
        y.wide(2);
        int[] stuck = {0, 1, 2, 3, 4, 5, 5, 6};
        for (int n = 0; n < 8; n++) {
            CHECK.due("the sixth draw makes it 15 wide, the seventh 5, stuck in " + n, y.drawn(n, 1, 1), stuck[n]);
        }
        for (int thick = 5; thick <= 6; thick++) {
            Check.tell(y, "h9,9;p8," + thick + ",0;");
            y.ticks(1);
            y.wide(2);
            CHECK.due(thick + " thick, by the seventh", y.drawn(7, 1, 1), thick);
        }

        LetterChute z = Check.chute("h3,9;c0,1,0;c0,1,0;");
        int[] cameOfTwo = {0, 0, 2, 2, 2, 3, 4, 4};
        for (int n = 0; n < 8; n++) {
            CHECK.due("of two came in " + n, z.drawn(n, 1, 0), cameOfTwo[n]);
        }
    }

    private static void nothingChanges() {
        LetterChute x = Check.chute("h5,6;c4,3,0;l4,2,0;p3,5,1;s2,9,2;r4,4,0;");
        x.ticks(2);
        x.row(0, 0, 12);
        int[] before = picture(x);
        x.ahead(0, 60, 0);
        x.full(0, 60);
        x.all(60, 0);
        x.when(4, 1);
        x.over();
        x.order(40, -1);
        x.need(40);
        x.latest(4, 40);
        x.sets(5, 0);
        x.share(0, 9);
        x.byTurns(4, 20);
        for (int which = 0; which <= 4; which++) {
            x.who(0, which, 0, 0, 12);
        }
        x.lost(0, 60, 5, 0);
        x.drawn(60, 7, 0);
        int[] after = picture(x);
        for (int i = 0; i < before.length; i++) {
            CHECK.due("foretelling changes nothing, " + i, after[i], before[i]);
        }
    }

    private static int[] picture(LetterChute x) {
        int[] seen = new int[60];
        int at = 0;
        for (int i = 0; i < 5; i++) {
            for (int what = 0; what <= 6; what++) {
                seen[at++] = x.letter(i, what);
            }
        }
        for (int f = 0; f < 5; f++) {
            seen[at++] = x.floor(f, 0);
            seen[at++] = x.floor(f, 1);
        }
        for (int what = 0; what <= 4; what++) {
            seen[at++] = x.stand(what);
        }
        for (int what = 0; what <= 7; what++) {
            seen[at++] = x.count(what);
        }
        return seen;
    }
}
