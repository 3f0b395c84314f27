/** The edges of promises 6 to 8, and of the TEXTS: one method for each sentence. */
public final class EdgesOfTextTest {
    private static final int BAD = Edge.BAD, FULL = Edge.FULL;
    private static final String LEAST_TEXT = "h3,2;c0,1,0;";
    private static final Edge EDGE = new Edge();

    public static void main(String[] args) {
        bytesGoFrom0To255();
        theTapeHas100BytesAtMost();
        badComesAheadOfFull();
        theTapeIsEmptyThen();
        houseOfAnEmptyTape();
        eachByteInEachPlace();
        theEndAtEachPlace();
        numbersHaveTwoFiguresAtMost();
        floorsGoFrom3To9();
        wideGoesFrom2To20();
        aFloorIsBelowFloors();
        thickGoesFrom1To9();
        startGoesFrom0To20();
        oneLetterAtLeast();
        sixLettersAtMost();
        aFullTapeIsRead();
        theFirstTokenThatHasOne();
        ofOneTokenTheLeast();
        aFaultLeavesAll();
        faultTellsTheLatest();
        aHouseStandsInPlaceOfTheOneBefore();
        whatAHouseLeaves();
        EDGE.end();
    }

    private static void dueOf(String text, int answer, int fault) {
        LetterChute x = new LetterChute();
        EDGE.due("house of " + text, Check.tell(x, text), answer);
        EDGE.due("fault of " + text, x.fault(), fault);
        EDGE.due("letters of " + text, x.count(1), fault == 0 ? answer : 0);
        EDGE.due("the tape behind " + text, x.count(7), 0);
    }

    private static void fault(String text, int place, int number) {
        dueOf(text, -1000100 - place, number);
    }

    private static void read(String text, int letters) {
        dueOf(text, letters, 0);
    }

    /** Promise 6: "A byte (0 to 255)". */
    private static void bytesGoFrom0To255() {
        EDGE.bounds("feed", Scenes::busy, 0, 255, (x, v) -> x.feed(v));
        EDGE.bounds("feed of a new object", LetterChute::new, 0, 255, (x, v) -> x.feed(v));
        LetterChute x = new LetterChute();
        EDGE.due("feed 0", x.feed(0), 1);
        EDGE.due("feed 255", x.feed(255), 2);
    }

    /** Terms: "THE TAPE has at most 100 bytes"; promise 6: "how many it has", "FULL". */
    private static void theTapeHas100BytesAtMost() {
        LetterChute x = new LetterChute();
        for (int many = 1; many <= 100; many++) {
            EDGE.due("feed, byte " + many, x.feed('h'), many);
        }
        EDGE.due("a full tape", x.count(7), 100);
        EDGE.refused("feed of a full tape", () -> Scenes.tapeOf(100), y -> y.feed('h'), FULL);
        EDGE.refused("feed of a full tape, byte 0", () -> Scenes.tapeOf(100), y -> y.feed(0), FULL);
        EDGE.refused("feed of a full tape, byte 255", () -> Scenes.tapeOf(100), y -> y.feed(255), FULL);
        EDGE.due("feed of 99 bytes", Scenes.tapeOf(99).feed('h'), 100);
    }

    private static void badComesAheadOfFull() {
        EDGE.refused("feed 256 of a full tape", () -> Scenes.tapeOf(100), x -> x.feed(256), BAD);
        EDGE.refused("feed -1 of a full tape", () -> Scenes.tapeOf(100), x -> x.feed(-1), BAD);
    }

    /** Promise 7: "The tape, empty then, is read", with a FAULT, too. */
    private static void theTapeIsEmptyThen() {
        LetterChute x = new LetterChute();
        for (int round = 0; round < 3; round++) {
            EDGE.due("a house", Check.tell(x, LEAST_TEXT), 1);
            EDGE.due("no byte is left", x.count(7), 0);
            EDGE.due("a fault", Check.tell(x, "h3,2;x"), -1000105);
            EDGE.due("no byte is left of a fault", x.count(7), 0);
        }
        EDGE.due("the first byte again", x.feed('h'), 1);
        LetterChute y = Scenes.tapeOf(100);
        y.house();
        for (int many = 1; many <= 100; many++) {
            EDGE.due("feed behind a full tape, byte " + many, y.feed('h'), many);
        }
        EDGE.due("full once more", y.feed('h'), FULL);
    }

    private static void houseOfAnEmptyTape() {
        fault("", 0, 1);
        LetterChute x = new LetterChute();
        Check.tell(x, LEAST_TEXT);
        EDGE.due("a second house of one tape", x.house(), -1000100);
        EDGE.due("the house stays", x.count(1), 1);
    }

    /** Terms: "TOKENS: letters a to z, NUMBERS, SIGNS , and ; nothing else" and where they stand. */
    private static void eachByteInEachPlace() {
        for (int place = 0; place < LEAST_TEXT.length(); place++) {
            for (int b = 0; b <= 255; b++) {
                String text = LEAST_TEXT.substring(0, place) + (char) b + LEAST_TEXT.substring(place + 1);
                int[] due = faultOf(place, (char) b);
                if (due == null) {
                    read(text, 1);
                } else {
                    fault(text, due[0], due[1]);
                }
            }
        }
    }

    /** The place and the number of the fault of h3,2;c0,1,0; with another byte at a place; null: there is none. */
    private static int[] faultOf(int place, char b) {
        boolean figure = b >= '0' && b <= '9';
        switch (place) {
            case 0: return b == 'h' ? null : new int[] {0, 1};
            case 1: return !figure ? new int[] {1, 1} : b < '3' ? new int[] {1, 2} : null;
            case 3: return !figure ? new int[] {3, 1} : b < '2' ? new int[] {3, 2} : null;
            case 5: return "cslpr".indexOf(b) >= 0 ? null : new int[] {5, 1};
            case 6: return !figure ? new int[] {6, 1} : b > '2' ? new int[] {6, 2} : null;
            case 8: return !figure ? new int[] {8, 1} : b == '0' ? new int[] {8, 2} : null;
            case 10: return !figure ? new int[] {10, 1} : null;
            case 4:
                // 2 and another figure are one number: 20 is as told, so that c cannot stand behind it.
                return b == ';' ? null : !figure ? new int[] {4, 1} : b == '0' ? new int[] {5, 1} : new int[] {3, 2};
            case 11:
                // 0 and another figure are a number as told, and the end comes too early.
                return b == ';' ? null : !figure ? new int[] {11, 1} : new int[] {12, 1};
            default:
                // A figure for a comma makes a run of three figures.
                return b == ',' ? null : !figure ? new int[] {place, 1} : new int[] {place - 1, 1};
        }
    }

    /** Terms: "the end: how many bytes there are". */
    private static void theEndAtEachPlace() {
        String text = "h03,02;c00,01,00;";
        for (int bytes = 0; bytes < text.length(); bytes++) {
            fault(text.substring(0, bytes), bytes == 2 || bytes == 5 || bytes == 12 ? bytes - 1 : bytes,
                bytes == 2 || bytes == 5 || bytes == 12 ? 2 : 1);
        }
        read(text, 1);
        for (int bytes = 1; bytes < LEAST_TEXT.length(); bytes++) {
            String more = LEAST_TEXT + LEAST_TEXT.substring(5, 5 + Math.min(6, bytes));
            fault(more, more.length(), 1);
        }
    }

    /** Terms: "NUMBERS (figures, 2 at most)"; "a run of three figures, at its first". */
    private static void numbersHaveTwoFiguresAtMost() {
        read("h03,02;c00,01,00;", 1);
        read("h09,20;c08,09,20;", 1);
        fault("h003,2;c0,1,0;", 1, 1);
        fault("h3,002;c0,1,0;", 3, 1);
        fault("h3,2;c000,1,0;", 6, 1);
        fault("h3,2;c0,001,0;", 8, 1);
        fault("h3,2;c0,1,000;", 10, 1);
        fault("h3,2;c0,1,0000000;", 10, 1);
        fault("h333,2;c0,1,0;", 1, 1);
        fault("h3,2;c0,1,200", 10, 1);
        fault("000", 0, 1);
        fault("h3,2;000", 5, 1);
        fault("h3,2;c0,1,0;000", 12, 1);
    }

    /** One of 0 to 99, with one figure and with two, in the place of one number of a text. */
    private static void range(String ahead, String behind, int low, int high) {
        for (int v = 0; v <= 99; v++) {
            String two = (v < 10 ? "0" : "") + v;
            for (String number : v < 10 ? new String[] {"" + v, two} : new String[] {two}) {
                if (v >= low && v <= high) {
                    read(ahead + number + behind, 1);
                } else {
                    fault(ahead + number + behind, ahead.length(), 2);
                }
            }
        }
    }

    /** Terms: "FLOORS .. (3 to 9". */
    private static void floorsGoFrom3To9() {
        range("h", ",2;c0,1,0;", 3, 9);
    }

    /** Terms: "WIDE .. 2 to 20". */
    private static void wideGoesFrom2To20() {
        range("h3,", ";c0,1,0;", 2, 20);
    }

    /** Terms: "a FLOOR": 0 to FLOORS less 1. */
    private static void aFloorIsBelowFloors() {
        for (int floors = 3; floors <= 9; floors++) {
            range("h" + floors + ",2;c", ",1,0;", 0, floors - 1);
        }
    }

    /** Terms: "THICK .. 1 to 9". */
    private static void thickGoesFrom1To9() {
        range("h3,2;c0,", ",0;", 1, 9);
    }

    /** Terms: "START .. 0 to 20". */
    private static void startGoesFrom0To20() {
        range("h3,2;c0,1,", ";", 0, 20);
    }

    /** Terms: "house: law letter { letter }". */
    private static void oneLetterAtLeast() {
        fault("h3,2;", 5, 1);
        fault("h03,20;", 7, 1);
        read("h3,2;r0,1,0;", 1);
    }

    /** Terms: "LETTERS 0 .. 5, 6 at most"; "3 a letter more than there is room for (its letter)". */
    private static void sixLettersAtMost() {
        StringBuilder text = new StringBuilder("h3,2;");
        for (int many = 1; many <= 6; many++) {
            text.append("cslprc".charAt(many - 1)).append("0,1,0;");
            read(text.toString(), many);
        }
        for (String sort : new String[] {"c", "s", "l", "p", "r"}) {
            fault(text + sort, 47, 3);
            fault(text + sort + "0,1,0;", 47, 3);
            fault(text + sort + "9,0,99;", 47, 3);
        }
        fault(text + "c0,1,0;c0,1,0;", 47, 3);
        fault(text + "h", 47, 1);
        fault(text + ";", 47, 1);
        fault(text + "0", 47, 1);
    }

    private static void aFullTapeIsRead() {
        String longest = "h09,20;c08,09,20;c08,09,20;c08,09,20;c08,09,20;c08,09,20;c08,09,20;";
        read(longest, 6);
        StringBuilder full = new StringBuilder(longest);
        while (full.length() < 100) {
            full.append('c');
        }
        fault(full.toString(), 67, 3);
        fault("h3,2;" + "c".repeat(95), 6, 1);
        fault("3".repeat(100), 0, 1);
        fault("h" + "3".repeat(99), 1, 1);
    }

    /** Terms: "the first TOKEN that has one (its first byte)". */
    private static void theFirstTokenThatHasOne() {
        fault("h2,1;c3,0,21;", 1, 2);
        fault("h3,1;c3,0,21;", 3, 2);
        fault("h3,2;c3,0,21;", 6, 2);
        fault("h3,2;c0,0,21;", 8, 2);
        fault("h3,2;c0,1,21;", 10, 2);
        fault("h3,2;c0,1,21", 10, 2);
        fault("h10x", 1, 2);
        fault("x10", 0, 1);
        fault("h3,2;c0,1,0;c0,1,0;c3", 20, 2);
    }

    /** Terms: "of one TOKEN the least". */
    private static void ofOneTokenTheLeast() {
        fault("h100,2;c0,1,0;", 1, 1);
        fault("h3,2;99", 5, 1);
        fault("99", 0, 1);
        fault("h3,99,", 3, 2);
        fault("h3,2;c0,1,0;c0,1,0;c0,1,0;c0,1,0;c0,1,0;c0,1,0;x", 47, 1);
        fault("h3,2;c0,1,0;c0,1,0;c0,1,0;c0,1,0;c0,1,0;c0,1,0;99", 47, 1);
    }

    /** Promise 7: "-1000100 less the place of a FAULT: all stays"; the scene's latest fault is 2, too. */
    private static void aFaultLeavesAll() {
        EDGE.asked("a fault in the law", Scenes::busyWithoutTape, x -> Check.tell(x, "h3,21;"), -1000103);
        EDGE.asked("a fault in a letter", Scenes::busyWithoutTape, x -> Check.tell(x, "h4,5;c3,1,0;s4,"), -1000113);
        LetterChute x = Scenes.busyWithoutTape();
        Check.tell(x, "h3,2;c0,1,21;");
        EDGE.due("status stays behind a fault", x.status(), Edge.PLACE);
        EDGE.asked("behind a fault nothing is left of its text", Scenes::busyWithoutTape,
            y -> Check.tell(y, "h9,20;s8,9,20;r8,9,21;"), -1000119);
    }

    /** Promise 8: "The number of the latest FAULT; 0 before one". */
    private static void faultTellsTheLatest() {
        LetterChute x = new LetterChute();
        EDGE.due("fault of a new object", x.fault(), 0);
        Check.tell(x, LEAST_TEXT);
        EDGE.due("fault behind a house without one", x.fault(), 0);
        String[] texts = {"", "h2", "h3,2;c0,1,0;c0,1,0;c0,1,0;c0,1,0;c0,1,0;c0,1,0;c", "h3,2;c0,0", "h"};
        int[] faults = {1, 2, 3, 2, 1};
        for (int i = 0; i < texts.length; i++) {
            Check.tell(x, texts[i]);
            EDGE.due("the latest fault, " + texts[i], x.fault(), faults[i]);
            Check.tell(x, LEAST_TEXT);
            EDGE.due("the latest fault stays, " + texts[i], x.fault(), faults[i]);
        }
    }

    /** Terms: "TICK 0, all LETTERS WAIT, STUCK and RUN of all are 0; no ACT can be undone". */
    private static void aHouseStandsInPlaceOfTheOneBefore() {
        LetterChute x = Scenes.busyWithoutTape();
        EDGE.due("a house of one letter in place of six", Check.tell(x, "h3,2;l2,9,20;"), 1);
        EDGE.due("letters", x.count(1), 1);
        EDGE.due("letter 1 is gone", x.letter(1, 0), BAD);
        EDGE.due("floors", x.stand(0), 3);
        EDGE.due("floor 3 is gone", x.floor(3, 0), BAD);
        EDGE.due("wide", x.stand(1), 2);
        EDGE.due("tick", x.count(3), 0);
        EDGE.due("all wait", x.stand(2), 1);
        EDGE.due("none in the shaft", x.stand(3), 0);
        EDGE.due("none in the box", x.stand(4), 0);
        EDGE.due("none in the box, counted", x.count(4), 0);
        EDGE.due("none is stuck", x.count(5), 0);
        EDGE.due("no act", x.count(6), 0);
        EDGE.due("nothing to undo", x.undo(), Edge.STATE);
        int[] told = {2, 9, 20, 20, 0, 0, 0};
        for (int what = 0; what <= 6; what++) {
            EDGE.due("letter 0, " + what, x.letter(0, what), told[what]);
        }
        for (int f = 0; f < 3; f++) {
            EDGE.due("full of floor " + f, x.floor(f, 0), 0);
            EDGE.due("letters at floor " + f, x.floor(f, 1), 0);
        }
        LetterChute y = Scenes.busyWithoutTape();
        Check.tell(y, "h6,7;c5,4,0;s4,9,1;l5,3,0;p2,5,0;r1,2,0;c3,6,20;");
        EDGE.due("the same text anew: all wait", y.stand(2), 63);
        for (int i = 0; i < 6; i++) {
            EDGE.due("stuck of " + i, y.letter(i, 4), 0);
            EDGE.due("run of " + i, y.letter(i, 5), 0);
        }
        EDGE.due("start of the one that was posted anew", y.letter(4, 2), 0);
        EDGE.due("floor of the one that was posted anew", y.letter(4, 0), 1);
    }

    /** A house is read, and nothing else: rows, images, the trace, fault() and status() stay. */
    private static void whatAHouseLeaves() {
        LetterChute x = Scenes.busyWithoutTape();
        Check.tell(x, LEAST_TEXT);
        EDGE.due("rows", x.count(0), 5);
        EDGE.due("fault", x.fault(), 2);
        EDGE.due("status", x.status(), Edge.PLACE);
        EDGE.due("trace", x.trace(0), 12);
        EDGE.due("image 1 is still none", x.restore(1), Edge.STATE);
        EDGE.due("image 0 is still kept", x.restore(0), 1);
        EDGE.due("its tick", x.count(3), 2);
        EDGE.due("its letters", x.count(1), 6);
    }
}
