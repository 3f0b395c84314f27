/** Promises 33 to 36. */
public final class AskedTest {
    private static final int BAD = LetterChute.BAD, NO_SUCH_KIND = -1000013;
    private static final Check CHECK = new Check();

    public static void main(String[] args) {
        kindsAreTold();
        lettersAreTakenAsKinds();
        asksBeginTheirBodies();
        asksSeeWhatIsStuck();
        refusedAsksLeaveTheTrace();
        CHECK.end();
    }

    private static LetterChute five() {
        return Check.chute("h9,20;c8,3,0;s8,4,0;l8,5,0;p8,6,0;r8,7,0;");
    }

    private static void kindsAreTold() {
        LetterChute x = five();
        for (int i = 0; i < 5; i++) {
            CHECK.due("kind of " + i, x.kind(i), i + 1);
        }
        CHECK.due("kind of 5", x.kind(5), BAD);
        CHECK.due("kind of -1", x.kind(-1), BAD);
    }

    private static void lettersAreTakenAsKinds() {
        LetterChute x = five();
        boolean[][] are = {
            {true, true, false, false, false, false},
            {true, true, true, false, false, false},
            {true, true, false, true, false, false},
            {true, false, false, false, true, false},
            {true, false, false, false, true, true},
        };
        for (int i = 0; i < 5; i++) {
            for (int k = 0; k <= 5; k++) {
                CHECK.due(i + " as " + k, x.as(i, k), are[i][k] ? i : NO_SUCH_KIND);
                CHECK.due("status of " + i + " as " + k, x.status(), are[i][k] ? 0 : 3);
            }
        }
        CHECK.due("as kind 6", x.as(0, 6), BAD);
        CHECK.due("as kind -1", x.as(0, -1), BAD);
        CHECK.due("letter 5 as a letter", x.as(5, 0), BAD);
    }

    private static void ask(LetterChute x, int one, int what, int want, int... bodies) {
        String name = "ask " + what + " of " + one;
        CHECK.due(name, x.ask(one, what), want);
        for (int i = 0; i < bodies.length; i++) {
            CHECK.due("trace " + i + " of " + name, x.trace(i), bodies[i]);
        }
        CHECK.due("the end of the trace of " + name, x.trace(bodies.length), LetterChute.NONE);
    }

    private static void asksBeginTheirBodies() {
        LetterChute x = five();
        ask(x, 0, 0, 3, 11, 10, 21, 20);
        ask(x, 0, 1, 0, 21, 20);
        ask(x, 1, 0, -6, 12, 11, 10, 24, 21, 20);
        ask(x, 1, 1, 2, 24, 21, 20);
        ask(x, 2, 0, -993, 11, 10, 22, 21, 20);
        ask(x, 2, 1, -998, 22, 21, 20);
        ask(x, 3, 0, -94, 13, 10);
        ask(x, 3, 1, 97, 23, 20, 13, 10);
        ask(x, 4, 0, -186, 14, 13, 10);
        ask(x, 4, 1, 190, 23, 20, 14, 13, 10);
    }

    private static void asksSeeWhatIsStuck() {
        LetterChute x = five();
        x.ticks(1);
        x.wide(2);
        x.ticks(2);
        ask(x, 0, 0, 5, 11, 10, 21, 20);
        ask(x, 2, 1, -996, 22, 21, 20);
        ask(x, 3, 1, 97, 23, 20, 13, 10);
    }

    private static void refusedAsksLeaveTheTrace() {
        LetterChute x = five();
        x.ask(3, 0);
        CHECK.due("ask 2", x.ask(0, 2), BAD);
        CHECK.due("ask -1", x.ask(0, -1), BAD);
        CHECK.due("ask of 5", x.ask(5, 0), BAD);
        CHECK.due("the trace stays", x.trace(0), 13);
        CHECK.due("trace -1", x.trace(-1), LetterChute.NONE);
        CHECK.due("trace 16", x.trace(16), LetterChute.NONE);
        CHECK.due("trace far off", x.trace(Integer.MIN_VALUE), LetterChute.NONE);
        CHECK.due("asks are no rows: status", x.status(), 0);
    }
}
