/** What the tests share: answers are compared with those that are due, and texts are told to a chute. */
final class Check {
    private int wrong = 0;
    private int calls = 0;

    void due(String call, long got, long want) {
        calls++;
        if (got != want) {
            wrong++;
            System.out.println(call + " answered " + got + ", due is " + want);
        }
    }

    void end() {
        System.out.println(calls + " answers, " + wrong + " not as due");
        if (wrong != 0) {
            System.exit(1);
        }
    }

    static void feed(LetterChute x, String text) {
        for (int i = 0; i < text.length(); i++) {
            x.feed(text.charAt(i));
        }
    }

    static int tell(LetterChute x, String text) {
        feed(x, text);
        return x.house();
    }

    static LetterChute chute(String text) {
        LetterChute x = new LetterChute();
        if (tell(x, text) < 1) {
            throw new IllegalStateException("no house: " + text);
        }
        return x;
    }

    static void row(LetterChute x, int row, int lane, int... items) {
        x.row(row, lane, items.length);
        for (int i = 0; i < items.length; i++) {
            x.set(row, i, items[i]);
        }
    }
}
