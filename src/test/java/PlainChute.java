import java.math.BigInteger;
import java.util.ArrayDeque;
import java.util.ArrayList;
import java.util.Arrays;
import java.util.Comparator;
import java.util.Deque;
import java.util.List;
import java.util.function.Predicate;

/**
 * The document once more, in the plainest way that comes to mind: everything is tried, nothing is spared.
 * RunsByDrawTest holds the program against it.
 */
final class PlainChute {
    static final int NONE = -1000000, BAD = -1000001, STATE = -1000002, FULL = -1000003;

    static final class Piece implements Cloneable {
        int number, floor, thick, start, stuck, run;
        char sort;
        String where = "waits";
        int at;
        boolean gone;

        Piece twin() {
            try {
                return (Piece) clone();
            } catch (CloneNotSupportedException e) {
                throw new AssertionError(e);
            }
        }

        int told() {
            return where.equals("waits") ? 20 : where.equals("box") ? 21 : at;
        }

        boolean falls() {
            return where.equals("shaft");
        }

        boolean boxed() {
            return where.equals("box");
        }

        boolean waits() {
            return where.equals("waits");
        }
    }

    static final class World {
        int floors, wide, tick;
        List<Piece> pieces = new ArrayList<>();
        List<Integer> rank = new ArrayList<>();

        World twin() {
            World w = new World();
            w.floors = floors;
            w.wide = wide;
            w.tick = tick;
            w.rank.addAll(rank);
            for (Piece p : pieces) {
                w.pieces.add(p.twin());
            }
            return w;
        }

        int full(int floor) {
            return pieces.stream().filter(p -> p.falls() && p.at == floor).mapToInt(p -> p.thick).sum();
        }

        boolean room(Piece p, int floor) {
            return p.sort == 's' || full(floor) + p.thick <= wide;
        }

        int fall(Piece p) {
            switch (p.sort) {
                case 'p':
                    return 1;
                case 'r':
                    return p.run + 1 > 4 ? 4 : p.run + 1;
                case 'l':
                    return pieces.stream().anyMatch(q -> q != p && q.falls() && q.at == p.at) ? 1 : 2;
                default:
                    return 2;
            }
        }

        World tick() {
            List<Piece> turns = new ArrayList<>(pieces.stream().filter(Piece::falls).toList());
            turns.sort(Comparator.<Piece>comparingInt(p -> p.at).thenComparingInt(p -> p.number));
            for (Piece p : turns) {
                int left = fall(p);
                boolean moved = false;
                while (left > 0 && p.falls()) {
                    if (p.at == 0) {
                        p.where = "box";
                    } else if (room(p, p.at - 1)) {
                        p.at--;
                    } else {
                        break;
                    }
                    moved = true;
                    left--;
                }
                if (moved) {
                    p.run++;
                } else {
                    p.run = 0;
                    p.stuck = p.stuck == 999 ? 999 : p.stuck + 1;
                }
            }
            for (int number : rank) {
                Piece p = pieces.get(number);
                if (p.waits() && !p.gone && p.start <= tick && room(p, p.floor)) {
                    p.where = "shaft";
                    p.at = p.floor;
                }
            }
            tick++;
            return this;
        }

        World after(int n) {
            World w = twin();
            for (int i = 0; i < n; i++) {
                w.tick();
            }
            return w;
        }

        void poke(int letter) {
            Piece p = pieces.get(letter);
            if (p.at == 0) {
                p.where = "box";
            } else {
                p.at--;
            }
        }

        void post(int letter, int floor) {
            Piece p = pieces.get(letter);
            p.where = "waits";
            p.floor = floor;
            p.start = tick;
            p.stuck = 0;
            p.run = 0;
        }

        int bits(Predicate<Piece> which) {
            return pieces.stream().filter(which).mapToInt(p -> 1 << p.number).sum();
        }

        int many(Predicate<Piece> which) {
            return (int) pieces.stream().filter(which).count();
        }

        int stuck() {
            return pieces.stream().mapToInt(p -> p.stuck).sum();
        }
    }

    private World world;
    private final Deque<World> acts = new ArrayDeque<>();
    private final World[] images = new World[2];
    private final Object[] rows = new Object[8];
    private final StringBuilder tape = new StringBuilder();
    private final List<Integer> trace = new ArrayList<>();
    private int fault;
    private int status;

    private static boolean in(int v, int low, int high) {
        return low <= v && v <= high;
    }

    private boolean isLetter(int l) {
        return world != null && in(l, 0, world.pieces.size() - 1);
    }

    private boolean isFloor(int f) {
        return world != null && in(f, 0, world.floors - 1);
    }

    private int found(int number) {
        status = number;
        return -1000010 - number;
    }

    private int fine(int answer) {
        status = 0;
        return answer;
    }

    private static int length(Object row) {
        return row instanceof byte[] ? ((byte[]) row).length
            : row instanceof short[] ? ((short[]) row).length : ((int[]) row).length;
    }

    int row(int row, int lane, int n) {
        if (!in(row, 0, 7) || !in(lane, 0, 2) || n > 40) {
            return BAD;
        }
        if (n < 0) {
            return found(4);
        }
        rows[row] = lane == 0 ? new byte[n] : lane == 1 ? (Object) new short[n] : new int[n];
        return fine(n);
    }

    int set(int row, int i, int v) {
        if (!in(row, 0, 7)) {
            return BAD;
        }
        if (rows[row] == null) {
            return found(1);
        }
        if (!in(i, 0, length(rows[row]) - 1)) {
            return found(2);
        }
        if (rows[row] instanceof byte[]) {
            ((byte[]) rows[row])[i] = (byte) v;
        } else if (rows[row] instanceof short[]) {
            ((short[]) rows[row])[i] = (short) v;
        } else {
            ((int[]) rows[row])[i] = v;
        }
        return fine(item(row, i));
    }

    private int item(int row, int i) {
        return rows[row] instanceof byte[] ? ((byte[]) rows[row])[i]
            : rows[row] instanceof short[] ? ((short[]) rows[row])[i] : ((int[]) rows[row])[i];
    }

    int copy(int a, int i, int b, int j, int n) {
        if (!in(a, 0, 7) || !in(b, 0, 7)) {
            return BAD;
        }
        try {
            if (rows[a] == null || rows[b] == null) {
                throw new NullPointerException();
            }
            System.arraycopy(rows[a], i, rows[b], j, n);
        } catch (NullPointerException e) {
            return found(1);
        } catch (ArrayStoreException e) {
            return found(5);
        } catch (IndexOutOfBoundsException e) {
            return found(2);
        }
        return fine(n);
    }

    int drop(int row) {
        if (!in(row, 0, 7)) {
            return BAD;
        }
        if (rows[row] == null) {
            return found(1);
        }
        int n = length(rows[row]);
        rows[row] = null;
        return fine(n);
    }

    int feed(int letter) {
        if (!in(letter, 0, 255)) {
            return BAD;
        }
        if (tape.length() == 100) {
            return FULL;
        }
        tape.append((char) letter);
        return tape.length();
    }

    /** Tokens first, by a pattern; then a walk over them with what may stand where. */
    int house() {
        String text = tape.toString();
        tape.setLength(0);
        World w = new World();
        int place = 0;
        int step = 0;
        int[] numbers = new int[3];
        char sort = ' ';
        while (true) {
            if (place == text.length()) {
                if (step == 5 && !w.pieces.isEmpty()) {
                    break;
                }
                return fails(1, place);
            }
            char c = text.charAt(place);
            int end = place + 1;
            if (c >= '0' && c <= '9') {
                while (end < text.length() && text.charAt(end) >= '0' && text.charAt(end) <= '9') {
                    end++;
                }
                if (end - place > 2) {
                    return fails(1, place);
                }
            }
            String token = text.substring(place, end);
            String wanted = "h0,0;S0,0,0;".substring(step, step + 1);
            boolean number = c >= '0' && c <= '9';
            boolean stands = wanted.equals("0") ? number : wanted.equals("S") ? "cslpr".contains(token) : wanted.equals(token);
            if (!stands) {
                return fails(1, place);
            }
            if (number) {
                int v = Integer.parseInt(token);
                boolean right = step == 1 ? in(v, 3, 9) : step == 3 ? in(v, 2, 20) : step == 6 ? in(v, 0, w.floors - 1)
                    : step == 8 ? in(v, 1, 9) : in(v, 0, 20);
                if (!right) {
                    return fails(2, place);
                }
                if (step == 1) {
                    w.floors = v;
                } else if (step == 3) {
                    w.wide = v;
                } else {
                    numbers[(step - 6) / 2] = v;
                }
            }
            if (step == 5) {
                if (w.pieces.size() == 6) {
                    return fails(3, place);
                }
                sort = c;
            }
            if (step == 11) {
                Piece p = new Piece();
                p.number = w.pieces.size();
                p.sort = sort;
                p.floor = numbers[0];
                p.thick = numbers[1];
                p.start = numbers[2];
                w.rank.add(p.number);
                w.pieces.add(p);
            }
            step = step == 11 ? 5 : step + 1;
            place = end;
        }
        world = w;
        acts.clear();
        return w.pieces.size();
    }

    private int fails(int number, int place) {
        fault = number;
        return -1000100 - place;
    }

    int fault() {
        return fault;
    }

    private void act() {
        acts.addLast(world.twin());
        if (acts.size() > 24) {
            acts.removeFirst();
        }
    }

    int undo() {
        if (acts.isEmpty()) {
            return STATE;
        }
        world = acts.removeLast();
        return acts.size();
    }

    int ticks(int n) {
        if (world == null) {
            return STATE;
        }
        if (!in(n, 1, 24)) {
            return BAD;
        }
        if (world.tick + n > 999) {
            return FULL;
        }
        for (int i = 0; i < n; i++) {
            act();
            world.tick();
        }
        return world.bits(Piece::boxed);
    }

    int wide(int v) {
        if (world == null) {
            return STATE;
        }
        if (!in(v, 2, 20)) {
            return BAD;
        }
        act();
        int was = world.wide;
        world.wide = v;
        return was;
    }

    int poke(int letter) {
        if (!isLetter(letter)) {
            return BAD;
        }
        if (!world.pieces.get(letter).falls()) {
            return STATE;
        }
        act();
        world.poke(letter);
        return world.pieces.get(letter).told();
    }

    int post(int letter, int floor) {
        if (!isLetter(letter) || !isFloor(floor)) {
            return BAD;
        }
        if (!world.pieces.get(letter).boxed()) {
            return STATE;
        }
        act();
        world.post(letter, floor);
        return world.bits(Piece::waits);
    }

    int letter(int letter, int what) {
        if (!isLetter(letter) || !in(what, 0, 6)) {
            return BAD;
        }
        Piece p = world.pieces.get(letter);
        return new int[] {p.floor, p.thick, p.start, p.told(), p.stuck, p.run, p.falls() ? world.fall(p) : 0}[what];
    }

    int floor(int floor, int what) {
        if (!isFloor(floor) || !in(what, 0, 1)) {
            return BAD;
        }
        return what == 0 ? world.full(floor) : world.bits(p -> p.falls() && p.at == floor);
    }

    int stand(int what) {
        if (world == null) {
            return STATE;
        }
        if (!in(what, 0, 4)) {
            return BAD;
        }
        return new int[] {world.floors, world.wide, world.bits(Piece::waits), world.bits(Piece::falls),
            world.bits(Piece::boxed)}[what];
    }

    int ahead(int letter, int n, int what) {
        if (!isLetter(letter) || !in(n, 0, 60) || !in(what, 0, 2)) {
            return BAD;
        }
        Piece p = world.after(n).pieces.get(letter);
        return new int[] {p.told(), p.stuck, p.run}[what];
    }

    int full(int floor, int n) {
        return isFloor(floor) && in(n, 0, 60) ? world.after(n).full(floor) : BAD;
    }

    int all(int n, int what) {
        if (world == null) {
            return STATE;
        }
        if (!in(n, 0, 60) || !in(what, 0, 1)) {
            return BAD;
        }
        World w = world.after(n);
        return what == 0 ? w.bits(Piece::boxed) : w.stuck();
    }

    private int first(Predicate<World> so) {
        World w = world.twin();
        for (int t = 0; t <= 60; t++, w.tick()) {
            if (so.test(w)) {
                return t;
            }
        }
        return NONE;
    }

    int when(int letter, int how) {
        if (!isLetter(letter) || !in(how, 0, 1)) {
            return BAD;
        }
        return first(w -> how == 0 ? !w.pieces.get(letter).waits() : w.pieces.get(letter).boxed());
    }

    int over() {
        return world == null ? STATE : first(w -> w.pieces.stream().allMatch(Piece::boxed));
    }

    int order(int n, int k) {
        if (world == null) {
            return STATE;
        }
        if (!in(n, 1, 40) || k < -1) {
            return BAD;
        }
        List<List<Integer>> orders = new ArrayList<>();
        permute(new ArrayList<>(), orders);
        int fewest = Integer.MAX_VALUE;
        List<Integer> best = List.of();
        for (List<Integer> o : orders) {
            int sum = ticksBy(o, n);
            if (sum < fewest) {
                fewest = sum;
                best = o;
            }
        }
        return k == -1 ? fewest : k < best.size() ? best.get(k) : NONE;
    }

    private int ticksBy(List<Integer> o, int n) {
        World w = world.twin();
        w.rank = o;
        int[] until = new int[w.pieces.size()];
        Arrays.fill(until, n + 1);
        for (int t = 0; t <= n; t++) {
            for (Piece p : w.pieces) {
                if (p.boxed() && until[p.number] > t) {
                    until[p.number] = t;
                }
            }
            w.tick();
        }
        return Arrays.stream(until).sum();
    }

    private void permute(List<Integer> so, List<List<Integer>> into) {
        if (so.size() == world.pieces.size()) {
            into.add(new ArrayList<>(so));
        }
        for (int i = 0; i < world.pieces.size(); i++) {
            if (!so.contains(i)) {
                so.add(i);
                permute(so, into);
                so.remove(so.size() - 1);
            }
        }
    }

    int need(int n) {
        if (world == null) {
            return STATE;
        }
        if (!in(n, 1, 40)) {
            return BAD;
        }
        for (int v = 2; v <= 20; v++) {
            World w = world.twin();
            w.wide = v;
            if (w.after(n).pieces.stream().allMatch(Piece::boxed)) {
                return v;
            }
        }
        return NONE;
    }

    int latest(int letter, int n) {
        if (!isLetter(letter) || !in(n, 1, 40)) {
            return BAD;
        }
        if (!world.pieces.get(letter).waits()) {
            return STATE;
        }
        for (int s = 99; s >= 0; s--) {
            World w = world.twin();
            w.pieces.get(letter).start = s;
            if (w.after(n).pieces.get(letter).boxed()) {
                return s;
            }
        }
        return NONE;
    }

    int sets(int v, int what) {
        if (world == null) {
            return STATE;
        }
        if (!in(v, 0, 54) || !in(what, 0, 2)) {
            return BAD;
        }
        List<Integer> fitting = new ArrayList<>();
        for (int set = 0; set < 1 << world.pieces.size(); set++) {
            int s = set;
            boolean outside = (world.bits(Piece::boxed) & s) == 0;
            int thick = world.pieces.stream().filter(p -> (s >> p.number & 1) == 1).mapToInt(p -> p.thick).sum();
            if (outside && thick == v) {
                fitting.add(s);
            }
        }
        int all = fitting.stream().reduce((a, b) -> a & b).orElse(0);
        int any = fitting.stream().reduce((a, b) -> a | b).orElse(0);
        return what == 0 ? fitting.size() : what == 1 ? all : any;
    }

    int share(int letter, int n) {
        if (!isLetter(letter) || !in(n, 0, 999)) {
            return BAD;
        }
        int sum = world.stuck();
        if (sum == 0) {
            return 0;
        }
        int[] gets = new int[world.pieces.size()];
        int over = n;
        for (Piece p : world.pieces) {
            gets[p.number] = n * p.stuck / sum;
            over -= gets[p.number];
        }
        for (Piece p : world.pieces) {
            if (over > 0 && p.stuck > 0) {
                gets[p.number]++;
                over--;
            }
        }
        return gets[letter];
    }

    int byTurns(int n, int m) {
        if (world == null) {
            return STATE;
        }
        if (!in(n, 0, 4) || !in(m, 1, 20)) {
            return BAD;
        }
        return play(world, 0, n, m);
    }

    private static int play(World w, int turn, int n, int m) {
        if (turn == n) {
            return w.after(m).many(Piece::boxed);
        }
        List<Integer> results = new ArrayList<>();
        results.add(play(w, turn + 1, n, m));
        if (turn % 2 == 1) {
            World less = w.twin();
            less.wide = Math.max(2, less.wide - 1);
            results.add(play(less, turn + 1, n, m));
            return results.stream().mapToInt(i -> i).min().getAsInt();
        }
        for (Piece p : w.pieces) {
            if (p.falls()) {
                World poked = w.twin();
                poked.poke(p.number);
                results.add(play(poked, turn + 1, n, m));
            }
        }
        return results.stream().mapToInt(i -> i).max().getAsInt();
    }

    private boolean fits(World w, int row, int i, int n) {
        for (int t = 1; t <= n; t++) {
            World then = w.after(t);
            if (then.many(Piece::falls) + 10 * then.many(Piece::boxed) != item(row, i + t - 1)) {
                return false;
            }
        }
        return true;
    }

    int who(int letter, int which, int row, int i, int n) {
        if (!isLetter(letter) || !in(which, 0, 4) || !in(row, 0, 7) || !in(n, 1, 12)) {
            return BAD;
        }
        if (rows[row] == null) {
            return found(1);
        }
        if (i < 0 || i > length(rows[row]) - n) {
            return found(2);
        }
        int bits = 0;
        for (int v = 0; v <= 20; v++) {
            boolean may = which == 0 ? in(v, 1, 5) : which == 1 ? in(v, 1, 9) : which == 2 ? isFloor(v) : in(v, 2, 20);
            if (!may) {
                continue;
            }
            World w = world.twin();
            Piece p = w.pieces.get(letter);
            if (which == 0) {
                p.sort = " cslpr".charAt(v);
            } else if (which == 1) {
                p.thick = v;
            } else if (which == 2) {
                p.floor = v;
            } else {
                w.wide = v;
            }
            if (fits(w, row, i, n)) {
                bits |= 1 << v;
            }
        }
        if (which < 3) {
            return fine(bits);
        }
        int least = NONE;
        for (int v = 20; v >= 2; v--) {
            least = (bits >> v & 1) == 1 ? v : least;
        }
        return fine(which == 3 ? Integer.bitCount(bits) : least);
    }

    long lost(int letter, int n, int p, int what) {
        if (!isLetter(letter) || !in(n, 0, 60) || !in(p, 0, 10) || !in(what, 0, 1)) {
            return BAD;
        }
        BigInteger above = chance(world.twin(), 0, letter, n, p);
        BigInteger below = BigInteger.TEN.pow(world.pieces.size());
        BigInteger by = above.gcd(below);
        return (what == 0 ? above : below).divide(by).longValueExact();
    }

    /** In cases of 10 to the power of all letters: one that does not wait has all its ten cases alike. */
    private BigInteger chance(World w, int i, int letter, int n, int p) {
        if (i == w.pieces.size()) {
            return w.after(n).pieces.get(letter).boxed() ? BigInteger.ONE : BigInteger.ZERO;
        }
        if (!w.pieces.get(i).waits()) {
            return chance(w, i + 1, letter, n, p).multiply(BigInteger.TEN);
        }
        World gone = w.twin();
        gone.pieces.get(i).gone = true;
        return chance(gone, i + 1, letter, n, p).multiply(BigInteger.valueOf(p))
            .add(chance(w, i + 1, letter, n, p).multiply(BigInteger.valueOf(10 - p)));
    }

    int drawn(int n, int seed, int what) {
        if (world == null) {
            return STATE;
        }
        if (!in(n, 0, 60) || !in(seed, 1, 999999) || !in(what, 0, 1)) {
            return BAD;
        }
        World w = world.twin();
        BigInteger x = BigInteger.valueOf(seed);
        int came = 0;
        for (int t = 0; t < n; t++) {
            x = x.multiply(BigInteger.valueOf(16807)).mod(BigInteger.valueOf(Integer.MAX_VALUE));
            int draw = x.intValueExact();
            int one = draw % w.pieces.size();
            if (w.pieces.get(one).boxed()) {
                w.post(one, draw % w.floors);
            } else if (draw % 4 == 0) {
                w.wide = draw % 19 + 2;
            }
            int ahead = w.bits(Piece::boxed);
            w.tick();
            came += Integer.bitCount(w.bits(Piece::boxed) & ~ahead);
        }
        return what == 0 ? came : w.stuck();
    }

    int image(int k) {
        if (!in(k, 0, 1)) {
            return BAD;
        }
        if (world == null) {
            return STATE;
        }
        images[k] = world.twin();
        return 1;
    }

    int restore(int k) {
        if (!in(k, 0, 1)) {
            return BAD;
        }
        if (images[k] == null) {
            return STATE;
        }
        world = images[k].twin();
        acts.clear();
        return 1;
    }

    int kind(int one) {
        return isLetter(one) ? " cslpr".indexOf(world.pieces.get(one).sort) : BAD;
    }

    int as(int one, int kind) {
        if (!isLetter(one) || !in(kind, 0, 5)) {
            return BAD;
        }
        String are = new String[] {"", "01", "012", "013", "04", "045"}[kind(one)];
        return are.contains("" + kind) ? fine(one) : found(3);
    }

    int ask(int one, int what) {
        if (!isLetter(one) || !in(what, 0, 1)) {
            return BAD;
        }
        trace.clear();
        return what == 0 ? size(one) : mark(one);
    }

    private int size(int one) {
        return body(one, new int[] {0, 11, 12, 11, 13, 14}[kind(one)]);
    }

    private int mark(int one) {
        return body(one, new int[] {0, 21, 24, 22, 23, 23}[kind(one)]);
    }

    private int body(int one, int number) {
        if (trace.size() < 16) {
            trace.add(number);
        }
        Piece p = world.pieces.get(one);
        switch (number) {
            case 10: return p.thick;
            case 11: return body(one, 10) + mark(one);
            case 12: return -body(one, 11);
            case 13: return body(one, 10) - 100;
            case 14: return body(one, 13) * 2;
            case 20: return one;
            case 21: return body(one, 20) + p.stuck;
            case 22: return body(one, 21) - 1000;
            case 23: return body(one, 20) - size(one);
            default: return body(one, 21) * 2;
        }
    }

    int trace(int i) {
        return in(i, 0, trace.size() - 1) ? trace.get(i) : NONE;
    }

    int count(int what) {
        switch (what) {
            case 0: return (int) Arrays.stream(rows).filter(r -> r != null).count();
            case 1: return world == null ? 0 : world.pieces.size();
            case 2: return world == null ? 0 : world.floors;
            case 3: return world == null ? 0 : world.tick;
            case 4: return world == null ? 0 : world.many(Piece::boxed);
            case 5: return world == null ? 0 : world.stuck();
            case 6: return acts.size();
            case 7: return tape.length();
            default: return BAD;
        }
    }

    int status() {
        return status;
    }
}
