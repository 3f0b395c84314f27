/** Promises 6 to 8, and 37 as far as it tells of the tape. */
public final class TextTest {
    private static final Check CHECK = new Check();

    public static void main(String[] args) {
        bytesAreFed();
        housesAreRead();
        faultsOfPlaces();
        faultsOfNumbers();
        faultsOfRoom();
        aFaultChangesNothing();
        aHouseStandsInPlaceOfTheOneBefore();
        CHECK.end();
    }

    private static void bytesAreFed() {
        LetterChute x = new LetterChute();
        CHECK.due("feed 0", x.feed(0), 1);
        CHECK.due("feed 255", x.feed(255), 2);
        CHECK.due("feed 256", x.feed(256), LetterChute.BAD);
        CHECK.due("feed -1", x.feed(-1), LetterChute.BAD);
        CHECK.due("two bytes", x.count(7), 2);
        for (int i = 3; i <= 100; i++) {
            CHECK.due("feed, byte " + i, x.feed('c'), i);
        }
        CHECK.due("feed, byte 101", x.feed('c'), LetterChute.FULL);
        CHECK.due("feed 256 on a full tape", x.feed(256), LetterChute.BAD);
        CHECK.due("a hundred bytes", x.count(7), 100);
        CHECK.due("a house that begins with byte 0", x.house(), -1000100);
        CHECK.due("the tape is empty", x.count(7), 0);
        for (int i = 0; i < 100; i++) {
            x.feed(i == 0 ? 'h' : '3');
        }
        CHECK.due("a run of 99 figures", x.house(), -1000101);
        CHECK.due("its fault", x.fault(), 1);
    }

    private static void housesAreRead() {
        LetterChute x = new LetterChute();
        CHECK.due("the least house", Check.tell(x, "h3,2;c0,1,0;"), 1);
        CHECK.due("3 floors", x.stand(0), 3);
        CHECK.due("2 wide", x.stand(1), 2);
        CHECK.due("no fault yet", x.fault(), 0);
        CHECK.due("the greatest house",
            Check.tell(x, "h9,20;c8,9,20;s8,9,20;l8,9,20;p8,9,20;r8,9,20;c8,9,20;"), 6);
        for (int i = 0; i < 6; i++) {
            CHECK.due("floor of " + i, x.letter(i, 0), 8);
            CHECK.due("thick of " + i, x.letter(i, 1), 9);
            CHECK.due("start of " + i, x.letter(i, 2), 20);
            CHECK.due("where " + i + " is", x.letter(i, 3), 20);
            CHECK.due("kind of " + i, x.kind(i), i == 5 ? 1 : i + 1);
        }
        CHECK.due("numbers of two figures", Check.tell(x, "h03,02;c00,01,00;"), 1);
        CHECK.due("3 floors again", x.count(2), 3);
    }

    private static void fault(String text, int place, int number) {
        LetterChute x = new LetterChute();
        CHECK.due("house of " + text, Check.tell(x, text), -1000100 - place);
        CHECK.due("fault of " + text, x.fault(), number);
        CHECK.due("no house by " + text, x.count(1), 0);
    }

    private static void faultsOfPlaces() {
        fault("", 0, 1);
        fault("c0,1,0;", 0, 1);
        fault("H3,2;", 0, 1);
        fault(" h3,2;", 0, 1);
        fault("hh3,2;", 1, 1);
        fault("h,", 1, 1);
        fault("h3;", 2, 1);
        fault("h3 ,2;", 2, 1);
        fault("h3,2,c0,1,0;", 4, 1);
        fault("h3,2;", 5, 1);
        fault("h3,2;;", 5, 1);
        fault("h3,2;h3,2;", 5, 1);
        fault("h3,2;a0,1,0;", 5, 1);
        fault("h3,2;3", 5, 1);
        fault("h3,2;c", 6, 1);
        fault("h3,2;c0", 7, 1);
        fault("h3,2;c0;", 7, 1);
        fault("h3,2;c0,1;", 9, 1);
        fault("h3,2;c0,1,0,", 11, 1);
        fault("h3,2;c0,1,0;;", 12, 1);
        fault("h3,2;c0,1,0;" + (char) 233, 12, 1);
        fault("h3,2;c0,1,0;p", 13, 1);
        fault("h003,2;", 1, 1);
        fault("h3,200;", 3, 1);
        fault("h3,2;c0,1,0200;", 10, 1);
        fault("h3,2;123", 5, 1);
    }

    private static void faultsOfNumbers() {
        fault("h2,2;c0,1,0;", 1, 2);
        fault("h10,2;c0,1,0;", 1, 2);
        fault("h3,1;c0,1,0;", 3, 2);
        fault("h3,21;c0,1,0;", 3, 2);
        fault("h3,2;c3,1,0;", 6, 2);
        fault("h9,2;c9,1,0;", 6, 2);
        fault("h3,2;c0,0,0;", 8, 2);
        fault("h3,2;c0,10,0;", 8, 2);
        fault("h3,2;c0,1,21;", 10, 2);
        fault("h2,1;x", 1, 2);
        fault("h2x", 1, 2);
    }

    private static void faultsOfRoom() {
        String six = "h3,2;c0,1,0;c0,1,0;c0,1,0;c0,1,0;c0,1,0;c0,1,0;";
        fault(six + "r", 47, 3);
        fault(six + "c0,1,0;", 47, 3);
        fault(six + "x", 47, 1);
        fault(six + "7", 47, 1);
    }

    private static void aFaultChangesNothing() {
        LetterChute x = Check.chute("h4,5;c3,1,0;r2,1,0;");
        x.ticks(2);
        CHECK.due("a text with a fault", Check.tell(x, "h3,2;x"), -1000105);
        CHECK.due("its fault", x.fault(), 1);
        CHECK.due("still 2 letters", x.count(1), 2);
        CHECK.due("still tick 2", x.count(3), 2);
        CHECK.due("acts are still kept", x.count(6), 2);
        CHECK.due("the tape is empty", x.count(7), 0);
        CHECK.due("another fault", Check.tell(x, "h3,1;"), -1000103);
        CHECK.due("the latest fault", x.fault(), 2);
        CHECK.due("a house without a fault", Check.tell(x, "h3,2;c0,1,0;"), 1);
        CHECK.due("the latest fault stays", x.fault(), 2);
    }

    private static void aHouseStandsInPlaceOfTheOneBefore() {
        LetterChute x = Check.chute("h5,9;c4,5,0;p4,4,0;");
        x.ticks(1);
        x.wide(3);
        x.ticks(3);
        CHECK.due("stuck 6", x.count(5), 6);
        CHECK.due("a new house", Check.tell(x, "h5,9;c4,5,0;p4,4,0;s1,2,3;"), 3);
        CHECK.due("tick 0", x.count(3), 0);
        CHECK.due("stuck 0", x.count(5), 0);
        CHECK.due("no act", x.count(6), 0);
        CHECK.due("nothing to undo", x.undo(), LetterChute.STATE);
        CHECK.due("all wait", x.stand(2), 7);
        CHECK.due("none in the shaft", x.stand(3), 0);
        CHECK.due("floor 4 is empty", x.floor(4, 0), 0);
        CHECK.due("9 wide", x.stand(1), 9);
    }
}
