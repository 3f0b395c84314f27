import java.util.List;

/** An edge is tried on two chutes that are alike: one gets the call, and the other tells what would be without it. */
final class Edge {
    static final int BAD = LetterChute.BAD, STATE = LetterChute.STATE, FULL = LetterChute.FULL, NONE = LetterChute.NONE;
    static final int NULL = 1, PLACE = 2, KIND = 3, SIZE = 4, STORE = 5;
    static final int LEAST = Integer.MIN_VALUE, MOST = Integer.MAX_VALUE;

    interface Scene {
        LetterChute make();
    }

    interface Call {
        long on(LetterChute x);
    }

    interface CallWith {
        long on(LetterChute x, int v);
    }

    private final Check check = new Check();

    void due(String name, long got, long want) {
        check.due(name, got, want);
    }

    void end() {
        check.end();
    }

    /** BAD, STATE or FULL: nothing at all has changed behind it. */
    void refused(String name, Scene scene, Call call, int want) {
        LetterChute x = scene.make();
        LetterChute twin = scene.make();
        due(name, call.on(x), want);
        due("status behind " + name, x.status(), twin.status());
        same(name, x, twin);
    }

    /** A finding: nothing but status() has changed behind it. */
    void found(String name, Scene scene, Call call, int number) {
        LetterChute x = scene.make();
        LetterChute twin = scene.make();
        due(name, call.on(x), -1000010 - number);
        due("status behind " + name, x.status(), number);
        same(name, x, twin);
    }

    /** What is only asked: the answer, and nothing but status() may have changed behind it. */
    void asked(String name, Scene scene, Call call, long want) {
        LetterChute x = scene.make();
        LetterChute twin = scene.make();
        due(name, call.on(x), want);
        same(name, x, twin);
    }

    /** The last numbers that are as told are taken; the first that are not, and those far away, are BAD. */
    void bounds(String name, Scene scene, int low, int high, CallWith call) {
        boundsAbove(name, scene, low, high, call);
        refused(name + ": " + (low - 1), scene, x -> call.on(x, low - 1), BAD);
        refused(name + ": far below", scene, x -> call.on(x, LEAST), BAD);
    }

    void boundsAbove(String name, Scene scene, int low, int high, CallWith call) {
        taken(name + ": " + low, call.on(scene.make(), low));
        taken(name + ": " + high, call.on(scene.make(), high));
        refused(name + ": " + (high + 1), scene, x -> call.on(x, high + 1), BAD);
        refused(name + ": far above", scene, x -> call.on(x, MOST), BAD);
    }

    private void taken(String name, long answer) {
        due(name + " is BAD", answer == BAD ? 1 : 0, 0);
    }

    private void same(String name, LetterChute x, LetterChute twin) {
        List<String> is = Picture.of(x);
        List<String> was = Picture.of(twin);
        due("lines seen behind " + name, is.size(), was.size());
        for (int i = 0; i < Math.min(is.size(), was.size()); i++) {
            due("behind " + name + ": " + is.get(i) + ", it was: " + was.get(i), is.get(i).equals(was.get(i)) ? 1 : 0, 1);
        }
    }
}
