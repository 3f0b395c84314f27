import java.util.Random;

/**
 * Runs of calls by draws (with fixed seeds), held against the plain model, call by call. A run ends ahead of an object's 512th
 * call, for what later calls answer is free; the longest text that is told takes fewer than 100.
 */
public final class RunsByDrawTest {
    private static final int RUNS = 1500, CALLS = 412;
    private final Check check = new Check();
    private LetterChute x;
    private PlainChute y;
    private Random draw;
    private String run;
    private int calls;

    public static void main(String[] args) {
        RunsByDrawTest test = new RunsByDrawTest();
        for (int seed = 0; seed < RUNS; seed++) {
            test.oneRun(seed);
        }
        test.check.end();
    }

    private void oneRun(int seed) {
        draw = new Random(seed);
        run = "run by " + seed + ": ";
        x = new LetterChute();
        y = new PlainChute();
        calls = 0;
        while (calls < CALLS) {
            oneCall();
        }
        check.due(run + "calls of one object", calls <= 512 ? 1 : 0, 1);
    }

    /** Mostly a number from low to high, at times one just beside, or far away. */
    private int some(int low, int high) {
        switch (draw.nextInt(40)) {
            case 0: return low - 1;
            case 1: return high + 1;
            case 2: return draw.nextBoolean() ? Integer.MIN_VALUE : Integer.MAX_VALUE;
            default: return low + draw.nextInt(high - low + 1);
        }
    }

    private void due(String call, long got, long want) {
        calls++;
        check.due(run + call, got, want);
    }

    private void oneCall() {
        int pick = draw.nextInt(100);
        if (pick < 3) {
            tell();
        } else if (pick < 35) {
            act();
        } else if (pick < 50) {
            rows();
        } else if (pick < 65) {
            look();
        } else if (pick < 98) {
            foretell();
        } else {
            dear();
        }
    }

    private void tell() {
        StringBuilder text = new StringBuilder();
        int floors = 3 + draw.nextInt(7);
        int wide = 2 + draw.nextInt(draw.nextBoolean() ? 8 : 19);
        text.append('h').append(floors).append(',').append(wide).append(';');
        int many = 1 + draw.nextInt(6) + (draw.nextInt(20) == 0 ? 1 : 0);
        int spread = 1 + draw.nextInt(floors);
        for (int i = 0; i < many; i++) {
            text.append("cslpr".charAt(draw.nextInt(5))).append(floors - 1 - draw.nextInt(spread)).append(',')
                .append(1 + draw.nextInt(Math.min(9, wide))).append(',').append(draw.nextInt(draw.nextBoolean() ? 3 : 21))
                .append(';');
        }
        if (draw.nextInt(3) == 0) {
            text.setCharAt(draw.nextInt(text.length()), "chx,;0129 \u00e9".charAt(draw.nextInt(11)));
        }
        if (draw.nextInt(8) == 0) {
            text.setLength(draw.nextInt(text.length()));
        }
        if (draw.nextInt(8) == 0) {
            text.insert(draw.nextInt(text.length() + 1), "chx,;0129z".charAt(draw.nextInt(10)));
        }
        for (int i = 0; i < text.length(); i++) {
            due("feed", x.feed(text.charAt(i)), y.feed(text.charAt(i)));
        }
        due("house of " + text, x.house(), y.house());
        due("fault", x.fault(), y.fault());
    }

    private void act() {
        int a = some(0, 5);
        int b = some(0, 8);
        switch (draw.nextInt(12)) {
            case 0: {
                int v = some(2, 20);
                due("wide " + v, x.wide(v), y.wide(v));
                break;
            }
            case 1:
            case 2:
                due("poke " + a, x.poke(a), y.poke(a));
                break;
            case 3:
            case 4:
                due("post " + a + " " + b, x.post(a, b), y.post(a, b));
                break;
            case 5:
                due("undo", x.undo(), y.undo());
                break;
            case 6: {
                int k = some(0, 1);
                due("image " + k, x.image(k), y.image(k));
                break;
            }
            case 7: {
                int k = some(0, draw.nextInt(3) == 0 ? 1 : 8);
                due("restore " + k, x.restore(k), y.restore(k));
                break;
            }
            default: {
                int n = some(1, draw.nextInt(6) == 0 ? 24 : 3);
                due("ticks " + n, x.ticks(n), y.ticks(n));
            }
        }
    }

    private void rows() {
        int a = some(0, 7);
        int b = some(0, 7);
        int i = some(0, 12);
        int n = some(0, 12);
        switch (draw.nextInt(7)) {
            case 0: {
                int lane = some(0, 2);
                int m = some(0, 40);
                due("row", x.row(a, lane, m), y.row(a, lane, m));
                break;
            }
            case 1:
            case 2: {
                int v = draw.nextInt();
                due("set", x.set(a, i, v), y.set(a, i, v));
                break;
            }
            case 3:
                due("copy", x.copy(a, i, b, n, i), y.copy(a, i, b, n, i));
                break;
            case 4:
                due("copy within", x.copy(a, i, a, n, 3), y.copy(a, i, a, n, 3));
                break;
            case 5: {
                int k = some(0, 20);
                due("drop", x.drop(k), y.drop(k));
                break;
            }
            default: {
                int kind = some(0, 5);
                due("as", x.as(i % 7, kind), y.as(i % 7, kind));
            }
        }
        due("status", x.status(), y.status());
    }

    private void look() {
        int a = some(0, 5);
        int f = some(0, 8);
        int w = some(0, 7);
        switch (draw.nextInt(8)) {
            case 0: due("letter " + a + " " + w, x.letter(a, w), y.letter(a, w)); break;
            case 1: due("floor " + f, x.floor(f, w % 3), y.floor(f, w % 3)); break;
            case 2: due("stand " + w, x.stand(w), y.stand(w)); break;
            case 3: due("count " + w, x.count(w), y.count(w)); break;
            case 4: due("kind " + a, x.kind(a), y.kind(a)); break;
            case 5: due("ask " + a, x.ask(a, w % 3), y.ask(a, w % 3)); break;
            case 6: due("trace " + w, x.trace(w), y.trace(w)); break;
            default: due("fault", x.fault(), y.fault());
        }
    }

    private void foretell() {
        int a = some(0, 5);
        int f = some(0, 8);
        int n = some(0, draw.nextBoolean() ? 60 : 12);
        int w = some(0, 2);
        switch (draw.nextInt(12)) {
            case 0: due("ahead " + a + " " + n, x.ahead(a, n, w), y.ahead(a, n, w)); break;
            case 1: due("full " + f + " " + n, x.full(f, n), y.full(f, n)); break;
            case 2: due("all " + n, x.all(n, w), y.all(n, w)); break;
            case 3: due("when " + a, x.when(a, w), y.when(a, w)); break;
            case 4: due("over", x.over(), y.over()); break;
            case 5: due("need " + n, x.need(n), y.need(n)); break;
            case 6: due("latest " + a + " " + n, x.latest(a, n), y.latest(a, n)); break;
            case 7: {
                int v = some(0, draw.nextBoolean() ? 54 : 20);
                due("sets " + v, x.sets(v, w), y.sets(v, w));
                break;
            }
            case 8: {
                int v = some(0, 999);
                due("share " + a + " " + v, x.share(a, v), y.share(a, v));
                break;
            }
            case 9: {
                int s = some(1, 999999);
                due("drawn " + n + " " + s, x.drawn(n, s, w), y.drawn(n, s, w));
                break;
            }
            default: tellWho(a);
        }
    }

    /** The row is told by the house itself, foretold, so that there is something that fits. */
    private void tellWho(int a) {
        int n = some(1, 12);
        int length = Math.max(1, Math.min(n, 12));
        due("row of who", x.row(1, 1, length), y.row(1, 1, length));
        for (int t = 0; t < length; t++) {
            int shaft = 0;
            int box = 0;
            for (int l = 0; l < y.count(1); l++) {
                int where = y.ahead(l, t + 1, 0);
                box += where == 21 ? 1 : 0;
                shaft += where < 20 ? 1 : 0;
            }
            due("set of who", x.set(1, t, shaft + 10 * box), y.set(1, t, shaft + 10 * box));
        }
        int i = draw.nextInt(10) == 0 ? some(0, 2) : 0;
        for (int which = 0; which <= 4; which++) {
            due("who " + a + " " + which + " " + n, x.who(a, which, 1, i, n), y.who(a, which, 1, i, n));
        }
        due("status of who", x.status(), y.status());
    }

    private void dear() {
        int a = some(0, 5);
        switch (draw.nextInt(3)) {
            case 0: {
                int n = some(1, 40);
                int most = draw.nextInt(4) == 0 ? 6 : 2;
                for (int k = -1; k < most; k++) {
                    due("order " + n + " " + k, x.order(n, k), y.order(n, k));
                }
                break;
            }
            case 1: {
                int n = some(0, 4);
                int m = some(1, 20);
                due("byTurns " + n + " " + m, x.byTurns(n, m), y.byTurns(n, m));
                break;
            }
            default: {
                int n = some(0, 60);
                int p = some(0, 10);
                due("lost above", x.lost(a, n, p, 0), y.lost(a, n, p, 0));
                due("lost below", x.lost(a, n, p, 1), y.lost(a, n, p, 1));
            }
        }
    }
}
