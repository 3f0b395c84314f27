/** Promises 9 to 16, 31, 32, and 37 as far as it tells of a house. */
public final class ActsTest {
    private static final int BAD = LetterChute.BAD, STATE = LetterChute.STATE;
    private static final Check CHECK = new Check();

    public static void main(String[] args) {
        withoutAHouse();
        cardsAndParcels();
        rollsGatherSpeed();
        limpOnesCling();
        slipsSlidePast();
        theLowestFallFirst();
        roomAtTheFloor();
        squeezedAndPoked();
        postedAnew();
        whatIsLookedAt();
        limitsOfTicks();
        actsAreUndone();
        imagesAreKept();
        CHECK.end();
    }

    private static void due(LetterChute x, String name, int letter, int where, int stuck, int run) {
        CHECK.due(name + ": where " + letter + " is", x.letter(letter, 3), where);
        CHECK.due(name + ": stuck of " + letter, x.letter(letter, 4), stuck);
        CHECK.due(name + ": run of " + letter, x.letter(letter, 5), run);
    }

    private static void withoutAHouse() {
        LetterChute x = new LetterChute();
        CHECK.due("ticks(0), no house", x.ticks(0), STATE);
        CHECK.due("wide(1), no house", x.wide(1), STATE);
        CHECK.due("stand(5), no house", x.stand(5), STATE);
        CHECK.due("poke, no house", x.poke(0), BAD);
        CHECK.due("post, no house", x.post(0, 0), BAD);
        CHECK.due("letter, no house", x.letter(0, 0), BAD);
        CHECK.due("floor, no house", x.floor(0, 0), BAD);
        CHECK.due("undo, no house", x.undo(), STATE);
        CHECK.due("image, no house", x.image(0), STATE);
        CHECK.due("restore, no image", x.restore(1), STATE);
    }

    private static void cardsAndParcels() {
        LetterChute x = Check.chute("h5,9;c4,2,0;p4,3,1;");
        CHECK.due("tick 1", x.ticks(1), 0);
        due(x, "tick 1", 0, 4, 0, 0);
        due(x, "tick 1", 1, 20, 0, 0);
        CHECK.due("a card falls 2", x.letter(0, 6), 2);
        CHECK.due("one that waits falls none", x.letter(1, 6), 0);
        x.ticks(1);
        due(x, "tick 2", 0, 2, 0, 1);
        due(x, "tick 2", 1, 4, 0, 0);
        CHECK.due("a parcel falls 1", x.letter(1, 6), 1);
        CHECK.due("ticks 3, 4", x.ticks(2), 1);
        due(x, "tick 4", 0, 21, 0, 3);
        due(x, "tick 4", 1, 2, 0, 2);
        CHECK.due("one in the box falls none", x.letter(0, 6), 0);
        CHECK.due("ticks 5 to 7", x.ticks(3), 3);
        due(x, "tick 7", 1, 21, 0, 5);
    }

    private static void rollsGatherSpeed() {
        LetterChute x = Check.chute("h9,9;r8,1,0;r8,1,0;");
        x.ticks(1);
        int[] floors = {8, 7, 5, 2};
        for (int t = 0; t < 4; t++) {
            due(x, "a roll, tick " + (t + 1), 0, floors[t], 0, t);
            CHECK.due("a roll falls, tick " + (t + 1), x.letter(0, 6), t + 1);
            x.ticks(1);
        }
        due(x, "a roll, tick 5", 0, 21, 0, 4);
        x.post(0, 8);
        due(x, "a roll posted anew", 0, 20, 0, 0);

        LetterChute y = Check.chute("h9,9;r8,1,0;");
        y.ticks(2);
        y.wide(2);
        Check.tell(y, "h9,9;r8,9,0;");
        y.ticks(3);
        due(y, "a thick roll", 0, 5, 0, 2);
        y.wide(8);
        y.ticks(1);
        due(y, "a roll that is stuck starts anew", 0, 5, 1, 0);
        y.wide(9);
        y.ticks(1);
        due(y, "and falls as a parcel", 0, 4, 1, 1);

        LetterChute z = Check.chute("h9,9;p7,5,0;r8,5,0;");
        z.ticks(5);
        due(z, "a roll behind a parcel goes on, if slowly", 1, 4, 0, 4);
        CHECK.due("4 at most", z.letter(1, 6), 4);
        for (int floor = 2; floor >= -1; floor--) {
            CHECK.due("the parcel out of its way", z.poke(0), floor < 0 ? 21 : floor);
        }
        z.ticks(1);
        due(z, "it falls 4", 1, 0, 0, 5);
    }

    private static void limpOnesCling() {
        LetterChute x = Check.chute("h9,9;l8,2,0;l8,2,0;");
        x.ticks(1);
        CHECK.due("a limp one with another falls 1", x.letter(0, 6), 1);
        x.ticks(1);
        due(x, "the first clung", 0, 7, 0, 1);
        due(x, "the second was alone by then", 1, 6, 0, 1);
        CHECK.due("a limp one alone falls 2", x.letter(0, 6), 2);

        LetterChute y = Check.chute("h9,9;s8,9,0;l8,2,0;c8,2,0;");
        y.ticks(2);
        due(y, "a slip goes ahead", 0, 6, 0, 1);
        due(y, "a limp one cannot enter beside it", 1, 8, 0, 0);
    }

    private static void slipsSlidePast() {
        LetterChute x = Check.chute("h3,2;p1,2,0;s2,9,0;");
        x.ticks(1);
        due(x, "a slip comes in, thick as it is", 1, 2, 0, 0);
        x.ticks(1);
        due(x, "the parcel falls 1", 0, 0, 0, 1);
        due(x, "the slip slides to it", 1, 0, 0, 1);
        CHECK.due("both count in full", x.floor(0, 0), 11);
        CHECK.due("both lie there", x.floor(0, 1), 3);
        CHECK.due("both in the box", x.ticks(1), 3);
    }

    private static void theLowestFallFirst() {
        LetterChute x = Check.chute("h4,4;c3,4,0;c1,4,0;");
        x.ticks(2);
        due(x, "the lower card, though it is number 1, is out of the way", 1, 21, 0, 1);
        due(x, "so the upper one falls 2", 0, 1, 0, 1);

        LetterChute y = Check.chute("h4,4;c3,4,0;p2,4,0;");
        y.ticks(2);
        due(y, "a parcel falls 1", 1, 1, 0, 1);
        due(y, "a card stops above it", 0, 2, 0, 1);

        LetterChute z = Check.chute("h3,6;p2,3,0;c2,3,0;c1,6,0;");
        z.ticks(1);
        z.wide(5);
        z.ticks(1);
        due(z, "too thick now", 2, 1, 1, 0);
        due(z, "no room below, by number", 0, 2, 1, 0);
        due(z, "nor for the card", 1, 2, 1, 0);
        CHECK.due("stuck of all", z.count(5), 3);
    }

    private static void roomAtTheFloor() {
        LetterChute x = Check.chute("h4,5;c3,3,0;p3,3,0;c3,2,0;r3,1,9;");
        x.ticks(1);
        CHECK.due("0 and 2 fit, 1 does not", x.stand(3), 5);
        CHECK.due("full is as wide", x.floor(3, 0), 5);
        CHECK.due("1 and 3 wait", x.stand(2), 10);
        due(x, "one that waits is not stuck", 1, 20, 0, 0);
        x.ticks(1);
        due(x, "1 comes in as the others are gone", 1, 3, 0, 0);
        x.ticks(7);
        due(x, "3 waits for its start", 3, 20, 0, 0);
        x.ticks(1);
        due(x, "start 9 is the tenth tick", 3, 3, 0, 0);
    }

    private static void squeezedAndPoked() {
        LetterChute x = Check.chute("h3,5;c2,5,0;c2,1,0;");
        CHECK.due("poke of one that waits", x.poke(0), STATE);
        x.ticks(1);
        CHECK.due("wide", x.wide(4), 5);
        CHECK.due("what lies there stays", x.floor(2, 0), 5);
        CHECK.due("wide 1", x.wide(1), BAD);
        CHECK.due("wide 21", x.wide(21), BAD);
        CHECK.due("still 4", x.stand(1), 4);
        x.ticks(3);
        due(x, "three times stuck", 0, 2, 3, 0);
        CHECK.due("poke", x.poke(0), 1);
        due(x, "poked, stuck is kept", 0, 1, 3, 0);
        CHECK.due("poke again", x.poke(0), 0);
        CHECK.due("poke out of the shaft", x.poke(0), 21);
        CHECK.due("poke of one in the box", x.poke(0), STATE);
        CHECK.due("poke 2 of 2", x.poke(2), BAD);
        CHECK.due("poke -1", x.poke(-1), BAD);
        due(x, "stuck is kept in the box", 0, 21, 3, 0);
        CHECK.due("wide 20", x.wide(20), 4);
        CHECK.due("wide 2", x.wide(2), 20);
        LetterChute y = Check.chute("h5,5;r4,5,0;");
        y.ticks(3);
        due(y, "a roll on its way", 0, 1, 0, 2);
        CHECK.due("poked on its way", y.poke(0), 0);
        due(y, "run is kept", 0, 0, 0, 2);
    }

    private static void postedAnew() {
        LetterChute x = Check.chute("h3,5;c2,5,0;c2,5,0;");
        CHECK.due("post of one that waits", x.post(0, 0), STATE);
        x.ticks(1);
        CHECK.due("post of one in the shaft", x.post(0, 0), STATE);
        x.wide(2);
        x.ticks(1);
        x.wide(5);
        CHECK.due("0 is down", x.ticks(2), 1);
        due(x, "it was stuck once", 0, 21, 1, 2);
        CHECK.due("post at floor 3 of 3", x.post(0, 3), BAD);
        CHECK.due("post at floor -1", x.post(0, -1), BAD);
        CHECK.due("post 2 of 2", x.post(2, 0), BAD);
        CHECK.due("posted anew", x.post(0, 1), 1);
        due(x, "it waits, as new", 0, 20, 0, 0);
        CHECK.due("its floor", x.letter(0, 0), 1);
        CHECK.due("its start", x.letter(0, 2), 4);
        x.ticks(1);
        due(x, "it comes in at once", 0, 1, 0, 0);
    }

    private static void whatIsLookedAt() {
        LetterChute x = Check.chute("h4,7;c3,4,0;p3,3,0;s0,2,0;l1,1,5;");
        x.ticks(2);
        CHECK.due("floors", x.stand(0), 4);
        CHECK.due("wide", x.stand(1), 7);
        CHECK.due("they wait", x.stand(2), 8);
        CHECK.due("in the shaft", x.stand(3), 3);
        CHECK.due("in the box", x.stand(4), 4);
        CHECK.due("stand 5", x.stand(5), BAD);
        CHECK.due("stand -1", x.stand(-1), BAD);
        CHECK.due("floor 1 full", x.floor(1, 0), 4);
        CHECK.due("floor 1 letters", x.floor(1, 1), 1);
        CHECK.due("floor 2 full", x.floor(2, 0), 3);
        CHECK.due("floor 2 letters", x.floor(2, 1), 2);
        CHECK.due("floor 4", x.floor(4, 0), BAD);
        CHECK.due("floor -1", x.floor(-1, 0), BAD);
        CHECK.due("floor what 2", x.floor(0, 2), BAD);
        CHECK.due("floor what -1", x.floor(0, -1), BAD);
        CHECK.due("letter 4", x.letter(4, 0), BAD);
        CHECK.due("letter what 7", x.letter(0, 7), BAD);
        CHECK.due("letter what -1", x.letter(0, -1), BAD);
        x.poke(0);
        x.poke(0);
        int[] counts = {0, 4, 4, 2, 2, 0, 4, 0};
        for (int what = 0; what < 8; what++) {
            CHECK.due("count " + what, x.count(what), counts[what]);
        }
        CHECK.due("count 8", x.count(8), BAD);
        CHECK.due("count -1", x.count(-1), BAD);
    }

    private static void limitsOfTicks() {
        LetterChute x = Check.chute("h3,9;c2,9,0;");
        CHECK.due("ticks 0", x.ticks(0), BAD);
        CHECK.due("ticks 25", x.ticks(25), BAD);
        x.ticks(1);
        x.wide(2);
        for (int i = 0; i < 41; i++) {
            x.ticks(24);
        }
        CHECK.due("tick 985", x.count(3), 985);
        CHECK.due("15 more", x.ticks(15), LetterChute.FULL);
        CHECK.due("still tick 985", x.count(3), 985);
        CHECK.due("25 more are BAD first", x.ticks(25), BAD);
        CHECK.due("14 more", x.ticks(14), 0);
        CHECK.due("tick 999", x.count(3), 999);
        CHECK.due("1 more", x.ticks(1), LetterChute.FULL);
        CHECK.due("stuck 998", x.letter(0, 4), 998);
        CHECK.due("foretold, stuck 999", x.ahead(0, 1, 1), 999);
        CHECK.due("foretold, stuck 999 at most", x.ahead(0, 60, 1), 999);
        x.undo();
        CHECK.due("undone, 1 more goes", x.ticks(1), 0);
    }

    private static void actsAreUndone() {
        LetterChute x = Check.chute("h5,6;c4,3,0;p4,2,0;");
        x.ticks(2);
        x.wide(9);
        x.poke(0);
        due(x, "poked", 0, 1, 0, 1);
        CHECK.due("four acts", x.count(6), 4);
        CHECK.due("the poke undone", x.undo(), 3);
        due(x, "not poked", 0, 2, 0, 1);
        CHECK.due("full there again", x.floor(2, 0), 3);
        CHECK.due("the width undone", x.undo(), 2);
        CHECK.due("6 wide again", x.stand(1), 6);
        CHECK.due("a tick undone", x.undo(), 1);
        due(x, "tick 1", 0, 4, 0, 0);
        CHECK.due("tick 1", x.count(3), 1);
        x.ticks(3);
        CHECK.due("posted anew", x.post(0, 0), 1);
        CHECK.due("the post undone", x.undo(), 4);
        due(x, "in the box again", 0, 21, 0, 3);
        CHECK.due("its old floor", x.letter(0, 0), 4);
        CHECK.due("its old start", x.letter(0, 2), 0);

        LetterChute y = Check.chute("h5,6;c4,3,0;");
        y.ticks(3);
        y.ticks(23);
        CHECK.due("24 acts at most", y.count(6), 24);
        for (int left = 23; left >= 0; left--) {
            CHECK.due("undo to " + left, y.undo(), left);
        }
        CHECK.due("two are forgotten", y.count(3), 2);
        CHECK.due("none is left", y.undo(), STATE);
        CHECK.due("refusals are no acts", y.wide(1) + y.poke(5) + y.ticks(0), 3 * BAD);
        CHECK.due("still none is left", y.undo(), STATE);
    }

    private static void imagesAreKept() {
        LetterChute x = Check.chute("h5,6;c4,3,0;p4,2,0;");
        x.ticks(2);
        CHECK.due("image 0", x.image(0), 1);
        CHECK.due("restore 1, none was kept", x.restore(1), STATE);
        CHECK.due("image 2", x.image(2), BAD);
        CHECK.due("image -1", x.image(-1), BAD);
        CHECK.due("restore 2", x.restore(2), BAD);
        CHECK.due("restore -1", x.restore(-1), BAD);
        CHECK.due("an image is no act", x.count(6), 2);
        x.wide(3);
        x.ticks(9);
        x.image(1);
        CHECK.due("restored", x.restore(0), 1);
        CHECK.due("6 wide", x.stand(1), 6);
        CHECK.due("tick 2", x.count(3), 2);
        due(x, "as it was", 0, 2, 0, 1);
        CHECK.due("no act can be undone", x.count(6), 0);
        CHECK.due("undo", x.undo(), STATE);
        Check.tell(x, "h3,2;r2,2,0;");
        CHECK.due("restored from another house", x.restore(1), 1);
        CHECK.due("two letters", x.count(1), 2);
        CHECK.due("tick 11", x.count(3), 11);
        x.ticks(1);
        CHECK.due("an image stays as it was kept", x.restore(1), 1);
        CHECK.due("tick 11 again", x.count(3), 11);
    }
}
