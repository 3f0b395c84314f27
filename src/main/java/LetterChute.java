/** A letter chute in a tall house. What each call promises stands in the project's document, DOC.md. */
public final class LetterChute {
    public static final int NONE = -1000000, BAD = -1000001, STATE = -1000002, FULL = -1000003;

    private static final int FOUND = -1000010, FAULTY = -1000100;
    private static final int NULL_FOUND = 1, PLACE_FOUND = 2, KIND_FOUND = 3, SIZE_FOUND = 4, STORE_FOUND = 5;

    private static final int ROWS = 8, LANES = 3, ITEMS = 40;
    private static final int TAPE_BYTES = 100;
    private static final int LETTERS = 6, KINDS = 5;
    private static final int CARD = 1, SLIP = 2, LIMP = 3, PARCEL = 4, ROLL = 5;
    private static final int CARD_FALL = 2, CLINGING_FALL = 1, PARCEL_FALL = 1, MOST_FALL = 4;
    private static final int MIN_FLOORS = 3, MAX_FLOORS = 9;
    private static final int MIN_WIDE = 2, MAX_WIDE = 20;
    private static final int MIN_THICK = 1, MAX_THICK = 9;
    private static final int MAX_TOLD_START = 20, MAX_START = 99;
    private static final int MAX_TICK = 999, MAX_STUCK = 999;
    private static final int ACTS = 24, IMAGES = 2;
    private static final int MAX_AHEAD = 60, MAX_PLANNED = 40, MAX_TOLD = 12;
    private static final int MORE_THAN_ANY_ORDER = LETTERS * (MAX_PLANNED + 1) + 1;
    private static final int MAX_TURNS = 4, MAX_TURN_TICKS = 20;
    private static final int MAX_SET_THICK = LETTERS * MAX_THICK, MAX_STAMPS = 999, MAX_SEED = 999999;
    private static final int WHICH_KINDS = 0, WHICH_THICKS = 1, WHICH_FLOORS = 2, WHICH_WIDES = 3, WHICH_LEAST_WIDE = 4;
    private static final int TRACE_LENGTH = 16;

    /** Where a letter is: its floor, or one of these. */
    private static final int WAITS = 20, BOX = 21, PLACES = 22;

    private final Shelf shelf = new Shelf();
    private final Reader reader = new Reader();
    private final Asking asking = new Asking();
    private final Letter[] sorts = {new Card(), new Slip(), new Limp(), new Parcel(), new Roll()};
    private final House now = new House();
    private final House draft = new House();
    private final Oracle oracle = new Oracle();
    private final House[] acts = new House[ACTS];
    private final House[] images = new House[IMAGES];
    private int actsKept = 0;
    private int nextAct = 0;
    private int latestFault = 0;
    private int finding = 0;

    public LetterChute() {
        for (int i = 0; i < ACTS; i++) {
            acts[i] = new House();
        }
        for (int i = 0; i < IMAGES; i++) {
            images[i] = new House();
        }
    }

    // ---- rows

    public int row(int row, int lane, int n) {
        if (!isRow(row) || !within(lane, 0, LANES - 1) || n > ITEMS) {
            return BAD;
        }
        if (n < 0) {
            return found(SIZE_FOUND);
        }
        shelf.make(row, lane, n);
        return foundNothing(n);
    }

    public int set(int row, int i, int v) {
        if (!isRow(row)) {
            return BAD;
        }
        if (shelf.isMissing(row)) {
            return found(NULL_FOUND);
        }
        if (!shelf.reaches(row, i, 1)) {
            return found(PLACE_FOUND);
        }
        return foundNothing(shelf.put(row, i, v));
    }

    public int copy(int a, int i, int b, int j, int n) {
        if (!isRow(a) || !isRow(b)) {
            return BAD;
        }
        if (shelf.isMissing(a) || shelf.isMissing(b)) {
            return found(NULL_FOUND);
        }
        if (shelf.lanes[a] != shelf.lanes[b]) {
            return found(STORE_FOUND);
        }
        if (!shelf.reaches(a, i, n) || !shelf.reaches(b, j, n)) {
            return found(PLACE_FOUND);
        }
        System.arraycopy(shelf.items[a], i, shelf.items[b], j, n);
        return foundNothing(n);
    }

    public int drop(int row) {
        if (!isRow(row)) {
            return BAD;
        }
        if (shelf.isMissing(row)) {
            return found(NULL_FOUND);
        }
        return foundNothing(shelf.remove(row));
    }

    // ---- what is told

    public int feed(int letter) {
        if (!within(letter, 0, 255)) {
            return BAD;
        }
        if (reader.length >= TAPE_BYTES) {
            return FULL;
        }
        return reader.append(letter);
    }

    public int house() {
        boolean isRead = reader.readInto(draft);
        reader.length = 0;
        if (!isRead) {
            latestFault = reader.faultNumber;
            return FAULTY - reader.place;
        }
        standAs(draft);
        return now.letters;
    }

    public int fault() {
        return latestFault;
    }

    public int undo() {
        if (actsKept == 0) {
            return STATE;
        }
        nextAct = (nextAct + ACTS - 1) % ACTS;
        actsKept--;
        now.copyFrom(acts[nextAct]);
        oracle.forget();
        return actsKept;
    }

    // ---- what is done

    public int ticks(int n) {
        if (hasNoHouse()) {
            return STATE;
        }
        if (!within(n, 1, ACTS)) {
            return BAD;
        }
        if (now.tick + n > MAX_TICK) {
            return FULL;
        }
        for (int t = 0; t < n; t++) {
            keepForUndo();
            now.tickOnce();
        }
        return now.lying[BOX];
    }

    public int wide(int v) {
        if (hasNoHouse()) {
            return STATE;
        }
        if (!within(v, MIN_WIDE, MAX_WIDE)) {
            return BAD;
        }
        keepForUndo();
        int before = now.width;
        now.width = v;
        return before;
    }

    public int poke(int letter) {
        if (!isLetter(letter)) {
            return BAD;
        }
        if (!now.isInShaft(letter)) {
            return STATE;
        }
        keepForUndo();
        now.moveTo(letter, House.below(now.place[letter]));
        return now.place[letter];
    }

    public int post(int letter, int floor) {
        if (!isLetter(letter) || !isFloor(floor)) {
            return BAD;
        }
        if (now.place[letter] != BOX) {
            return STATE;
        }
        keepForUndo();
        now.postAnew(letter, floor);
        return now.lying[WAITS];
    }

    public int letter(int letter, int what) {
        if (!isLetter(letter)) {
            return BAD;
        }
        switch (what) {
            case 0: return now.postedAt[letter];
            case 1: return now.thick[letter];
            case 2: return now.start[letter];
            case 3: return now.place[letter];
            case 4: return now.stuck[letter];
            case 5: return now.run[letter];
            case 6: return now.isInShaft(letter) ? now.floorsToFall(letter) : 0;
            default: return BAD;
        }
    }

    public int floor(int floor, int what) {
        if (!isFloor(floor) || !within(what, 0, 1)) {
            return BAD;
        }
        return what == 0 ? now.load[floor] : now.lying[floor];
    }

    public int stand(int what) {
        if (hasNoHouse()) {
            return STATE;
        }
        switch (what) {
            case 0: return now.floors;
            case 1: return now.width;
            case 2: return now.lying[WAITS];
            case 3: return now.lettersInShaft();
            case 4: return now.lying[BOX];
            default: return BAD;
        }
    }

    // ---- foretold

    public int ahead(int letter, int n, int what) {
        if (!isLetter(letter) || !within(n, 0, MAX_AHEAD) || !within(what, 0, 2)) {
            return BAD;
        }
        House then = oracle.behind(now, n);
        if (what == 0) {
            return then.place[letter];
        }
        return what == 1 ? then.stuck[letter] : then.run[letter];
    }

    public int full(int floor, int n) {
        if (!isFloor(floor) || !within(n, 0, MAX_AHEAD)) {
            return BAD;
        }
        return oracle.behind(now, n).load[floor];
    }

    public int all(int n, int what) {
        if (hasNoHouse()) {
            return STATE;
        }
        if (!within(n, 0, MAX_AHEAD) || !within(what, 0, 1)) {
            return BAD;
        }
        House then = oracle.behind(now, n);
        return what == 0 ? then.lying[BOX] : then.stuckTogether();
    }

    public int when(int letter, int how) {
        if (!isLetter(letter) || !within(how, 0, 1)) {
            return BAD;
        }
        return how == 0 ? oracle.ticksUntilPosted(now, letter) : oracle.ticksUntilBoxed(now, 1 << letter);
    }

    public int over() {
        if (hasNoHouse()) {
            return STATE;
        }
        return oracle.ticksUntilBoxed(now, now.allLetters());
    }

    public int order(int n, int k) {
        if (hasNoHouse()) {
            return STATE;
        }
        if (!within(n, 1, MAX_PLANNED) || k < -1) {
            return BAD;
        }
        if (k >= now.letters) {
            return NONE;
        }
        oracle.findOrder(now, n);
        return k == -1 ? oracle.fewestTicks : oracle.bestOrder[k];
    }

    public int need(int n) {
        if (hasNoHouse()) {
            return STATE;
        }
        if (!within(n, 1, MAX_PLANNED)) {
            return BAD;
        }
        return oracle.leastWide(now, n);
    }

    public int latest(int letter, int n) {
        if (!isLetter(letter) || !within(n, 1, MAX_PLANNED)) {
            return BAD;
        }
        if (now.place[letter] != WAITS) {
            return STATE;
        }
        return oracle.latestStart(now, letter, n);
    }

    public int sets(int v, int what) {
        if (hasNoHouse()) {
            return STATE;
        }
        if (!within(v, 0, MAX_SET_THICK) || !within(what, 0, 2)) {
            return BAD;
        }
        return setsSoThick(v, what);
    }

    public int share(int letter, int n) {
        if (!isLetter(letter) || !within(n, 0, MAX_STAMPS)) {
            return BAD;
        }
        return stampsFor(letter, n);
    }

    public int byTurns(int n, int m) {
        if (hasNoHouse()) {
            return STATE;
        }
        if (!within(n, 0, MAX_TURNS) || !within(m, 1, MAX_TURN_TICKS)) {
            return BAD;
        }
        return oracle.boxedByTurns(now, n, m);
    }

    public int who(int letter, int which, int row, int i, int n) {
        if (!isLetter(letter) || !within(which, 0, WHICH_LEAST_WIDE) || !isRow(row) || !within(n, 1, MAX_TOLD)) {
            return BAD;
        }
        if (shelf.isMissing(row)) {
            return found(NULL_FOUND);
        }
        if (!shelf.reaches(row, i, n)) {
            return found(PLACE_FOUND);
        }
        oracle.hear(shelf.items[row], i, n);
        return foundNothing(whoFits(letter, which));
    }

    public long lost(int letter, int n, int p, int what) {
        if (!isLetter(letter) || !within(n, 0, MAX_AHEAD) || !within(p, 0, 10) || !within(what, 0, 1)) {
            return BAD;
        }
        return oracle.chanceOfBox(now, letter, n, p, what);
    }

    public int drawn(int n, int seed, int what) {
        if (hasNoHouse()) {
            return STATE;
        }
        if (!within(n, 0, MAX_AHEAD) || !within(seed, 1, MAX_SEED) || !within(what, 0, 1)) {
            return BAD;
        }
        return oracle.daysByDraws(now, n, seed, what);
    }

    public int image(int k) {
        if (!within(k, 0, IMAGES - 1)) {
            return BAD;
        }
        if (hasNoHouse()) {
            return STATE;
        }
        images[k].copyFrom(now);
        return 1;
    }

    public int restore(int k) {
        if (!within(k, 0, IMAGES - 1)) {
            return BAD;
        }
        if (images[k].letters == 0) {
            return STATE;
        }
        standAs(images[k]);
        return 1;
    }

    // ---- asked

    public int kind(int one) {
        return isLetter(one) ? now.kinds[one] : BAD;
    }

    public int as(int one, int kind) {
        if (!isLetter(one) || !within(kind, 0, KINDS)) {
            return BAD;
        }
        if (!isOfKind(sortOf(one), kind)) {
            return found(KIND_FOUND);
        }
        return foundNothing(one);
    }

    public int ask(int one, int what) {
        if (!isLetter(one) || !within(what, 0, 1)) {
            return BAD;
        }
        asking.begin(one, now.thick[one], now.stuck[one]);
        Letter sort = sortOf(one);
        return what == 0 ? sort.sizeFor(asking) : sort.markFor(asking);
    }

    public int trace(int i) {
        return within(i, 0, asking.traced - 1) ? asking.bodies[i] : NONE;
    }

    public int count(int what) {
        switch (what) {
            case 0: return shelf.rowsThere();
            case 1: return now.letters;
            case 2: return now.floors;
            case 3: return now.tick;
            case 4: return now.lettersBoxed();
            case 5: return now.stuckTogether();
            case 6: return actsKept;
            case 7: return reader.length;
            default: return BAD;
        }
    }

    public int status() {
        return finding;
    }

    // ---- helpers of the face

    private static boolean within(int v, int low, int high) {
        return v >= low && v <= high;
    }

    private static boolean isRow(int row) {
        return within(row, 0, ROWS - 1);
    }

    private boolean isLetter(int letter) {
        return within(letter, 0, now.letters - 1);
    }

    private boolean isFloor(int floor) {
        return within(floor, 0, now.floors - 1);
    }

    /** A house that is read has a letter at least, so one without letters is none. */
    private boolean hasNoHouse() {
        return now.letters == 0;
    }

    private int found(int number) {
        finding = number;
        return FOUND - number;
    }

    private int foundNothing(int answer) {
        finding = 0;
        return answer;
    }

    private void standAs(House house) {
        now.copyFrom(house);
        actsKept = 0;
        oracle.forget();
    }

    private void keepForUndo() {
        acts[nextAct].copyFrom(now);
        nextAct = (nextAct + 1) % ACTS;
        actsKept = Math.min(ACTS, actsKept + 1);
        oracle.forget();
    }

    private int setsSoThick(int v, int what) {
        int outside = now.lettersOutside();
        int many = 0;
        int inEach = outside;
        int inAny = 0;
        for (int set = 0; set <= outside; set++) {
            if ((set & ~outside) == 0 && now.thickTogether(set) == v) {
                many++;
                inEach &= set;
                inAny |= set;
            }
        }
        if (what == 0) {
            return many;
        }
        if (what == 2) {
            return inAny;
        }
        return many == 0 ? 0 : inEach;
    }

    private int stampsFor(int letter, int n) {
        int stuckOfAll = now.stuckTogether();
        if (stuckOfAll == 0 || now.stuck[letter] == 0) {
            return 0;
        }
        int given = 0;
        int stuckAhead = 0;
        for (int i = 0; i < now.letters; i++) {
            given += n * now.stuck[i] / stuckOfAll;
            if (i < letter && now.stuck[i] > 0) {
                stuckAhead++;
            }
        }
        int own = n * now.stuck[letter] / stuckOfAll;
        return stuckAhead < n - given ? own + 1 : own;
    }

    private int whoFits(int letter, int which) {
        switch (which) {
            case WHICH_KINDS: return oracle.fitting(now, letter, WHICH_KINDS, 1, KINDS);
            case WHICH_THICKS: return oracle.fitting(now, letter, WHICH_THICKS, MIN_THICK, MAX_THICK);
            case WHICH_FLOORS: return oracle.fitting(now, letter, WHICH_FLOORS, 0, now.floors - 1);
            case WHICH_WIDES: return Integer.bitCount(oracle.fitting(now, letter, WHICH_WIDES, MIN_WIDE, MAX_WIDE));
            default: return lowestOf(oracle.fitting(now, letter, WHICH_WIDES, MIN_WIDE, MAX_WIDE));
        }
    }

    private static int lowestOf(int bits) {
        return bits == 0 ? NONE : Integer.numberOfTrailingZeros(bits);
    }

    private Letter sortOf(int one) {
        return sorts[now.kinds[one] - 1];
    }

    private static boolean isOfKind(Letter sort, int kind) {
        switch (kind) {
            case 0: return true;
            case CARD: return sort instanceof Card;
            case SLIP: return sort instanceof Slip;
            case LIMP: return sort instanceof Limp;
            case PARCEL: return sort instanceof Parcel;
            case ROLL: return sort instanceof Roll;
            default: return false;
        }
    }

    /** The rows; their items are kept as ints, cut to their lane as they are set. */
    private static final class Shelf {
        private static final int MISSING = -1;
        final int[] lanes = new int[ROWS];
        final int[] lengths = new int[ROWS];
        final int[][] items = new int[ROWS][ITEMS];

        Shelf() {
            for (int r = 0; r < ROWS; r++) {
                lanes[r] = MISSING;
            }
        }

        boolean isMissing(int row) {
            return lanes[row] == MISSING;
        }

        /** Whether the row has n items from i on; long, for i and n may be any int. */
        boolean reaches(int row, int i, int n) {
            return i >= 0 && n >= 0 && (long) i + n <= lengths[row];
        }

        void make(int row, int lane, int n) {
            lanes[row] = lane;
            lengths[row] = n;
            for (int i = 0; i < n; i++) {
                items[row][i] = 0;
            }
        }

        int put(int row, int i, int v) {
            items[row][i] = cutTo(lanes[row], v);
            return items[row][i];
        }

        int remove(int row) {
            lanes[row] = MISSING;
            return lengths[row];
        }

        int rowsThere() {
            int there = 0;
            for (int r = 0; r < ROWS; r++) {
                if (!isMissing(r)) {
                    there++;
                }
            }
            return there;
        }

        private static int cutTo(int lane, int v) {
            if (lane == 0) {
                return (byte) v;
            }
            return lane == 1 ? (short) v : v;
        }
    }

    /** The tape, and how it is read; place is that of the token looked at, and so that of a fault. */
    private static final class Reader {
        private static final int END = -1;
        private static final int MISPLACED = 1, OUT_OF_RANGE = 2, TOO_MANY = 3;
        final int[] tape = new int[TAPE_BYTES];
        int length = 0;
        int place = 0;
        int faultNumber = 0;
        private int number = 0;

        int append(int letter) {
            tape[length] = letter;
            length++;
            return length;
        }

        boolean readInto(House house) {
            place = 0;
            boolean fits = readLaw(house);
            for (int k = 0; k <= LETTERS && fits && (k == 0 || place < length); k++) {
                fits = readLetter(house);
            }
            return fits;
        }

        private boolean readLaw(House house) {
            if (!passSign('h') || !passNumber(MIN_FLOORS, MAX_FLOORS)) {
                return false;
            }
            int floors = number;
            if (!passSign(',') || !passNumber(MIN_WIDE, MAX_WIDE)) {
                return false;
            }
            house.begin(floors, number);
            return passSign(';');
        }

        private boolean readLetter(House house) {
            int kind = kindBySign(byteAt(place));
            if (kind == 0) {
                return fails(MISPLACED);
            }
            if (house.letters >= LETTERS) {
                return fails(TOO_MANY);
            }
            place++;
            if (!passNumber(0, house.floors - 1)) {
                return false;
            }
            int floor = number;
            if (!passSign(',') || !passNumber(MIN_THICK, MAX_THICK)) {
                return false;
            }
            int thick = number;
            if (!passSign(',') || !passNumber(0, MAX_TOLD_START)) {
                return false;
            }
            house.add(kind, floor, thick, number);
            return passSign(';');
        }

        private boolean passSign(int sign) {
            if (byteAt(place) != sign) {
                return fails(MISPLACED);
            }
            place++;
            return true;
        }

        private boolean passNumber(int low, int high) {
            int figures = 0;
            int value = 0;
            while (figures < 3 && isFigure(byteAt(place + figures))) {
                value = value * 10 + byteAt(place + figures) - '0';
                figures++;
            }
            if (figures < 1 || figures > 2) {
                return fails(MISPLACED);
            }
            if (!within(value, low, high)) {
                return fails(OUT_OF_RANGE);
            }
            number = value;
            place += figures;
            return true;
        }

        private boolean fails(int fault) {
            faultNumber = fault;
            return false;
        }

        private int byteAt(int i) {
            return within(i, 0, length - 1) ? tape[i] : END;
        }

        private static boolean isFigure(int sign) {
            return within(sign, '0', '9');
        }

        private static int kindBySign(int sign) {
            switch (sign) {
                case 'c': return CARD;
                case 's': return SLIP;
                case 'l': return LIMP;
                case 'p': return PARCEL;
                case 'r': return ROLL;
                default: return 0;
            }
        }
    }

    /** A house as it stands at a tick: the one that is, one kept for undo or as an image, or one tried out. */
    private static final class House {
        int floors = 0;
        int width = 0;
        int tick = 0;
        int letters = 0;
        /** Letters that are never posted, as bits: none, but where it is foretold so. */
        int neverPosted = 0;
        final int[] kinds = new int[LETTERS];
        final int[] postedAt = new int[LETTERS];
        final int[] thick = new int[LETTERS];
        final int[] start = new int[LETTERS];
        final int[] place = new int[LETTERS];
        final int[] stuck = new int[LETTERS];
        final int[] run = new int[LETTERS];
        final int[] rank = new int[LETTERS];
        /** By place: which letters are there, as bits, and how thick they are together. */
        final int[] lying = new int[PLACES];
        final int[] load = new int[PLACES];

        void begin(int floorsTold, int widthTold) {
            floors = floorsTold;
            width = widthTold;
            tick = 0;
            letters = 0;
            neverPosted = 0;
            for (int p = 0; p < PLACES; p++) {
                lying[p] = 0;
                load[p] = 0;
            }
        }

        void add(int kind, int floor, int thickness, int startTold) {
            int i = letters;
            kinds[i] = kind;
            postedAt[i] = floor;
            thick[i] = thickness;
            start[i] = startTold;
            place[i] = WAITS;
            stuck[i] = 0;
            run[i] = 0;
            rank[i] = i;
            lying[WAITS] |= 1 << i;
            load[WAITS] += thickness;
            letters++;
        }

        void copyFrom(House other) {
            floors = other.floors;
            width = other.width;
            tick = other.tick;
            letters = other.letters;
            neverPosted = other.neverPosted;
            System.arraycopy(other.kinds, 0, kinds, 0, LETTERS);
            System.arraycopy(other.postedAt, 0, postedAt, 0, LETTERS);
            System.arraycopy(other.thick, 0, thick, 0, LETTERS);
            System.arraycopy(other.start, 0, start, 0, LETTERS);
            System.arraycopy(other.place, 0, place, 0, LETTERS);
            System.arraycopy(other.stuck, 0, stuck, 0, LETTERS);
            System.arraycopy(other.run, 0, run, 0, LETTERS);
            System.arraycopy(other.rank, 0, rank, 0, LETTERS);
            System.arraycopy(other.lying, 0, lying, 0, PLACES);
            System.arraycopy(other.load, 0, load, 0, PLACES);
        }

        void tickOnce() {
            // One that falls comes to floors that are done, so none has two turns.
            for (int f = 0; f < floors; f++) {
                int there = lying[f];
                for (int i = 0; i < letters && there >> i != 0; i++) {
                    if ((there >> i & 1) != 0) {
                        letFall(i);
                    }
                }
            }
            int coming = lying[WAITS] & ~neverPosted;
            for (int k = 0; k < letters && coming != 0; k++) {
                int i = rank[k];
                if ((coming >> i & 1) != 0 && start[i] <= tick && hasRoom(i, postedAt[i])) {
                    moveTo(i, postedAt[i]);
                }
            }
            tick++;
        }

        /** Behind n ticks all is as it is, if nothing is left that could move; the tick alone is not kept up. */
        void pass(int n) {
            for (int t = 0; t < n && lettersOutside() != 0; t++) {
                tickOnce();
            }
        }

        private void letFall(int i) {
            int from = place[i];
            int steps = floorsToFall(i);
            for (int s = 0; s < steps && place[i] != BOX && hasRoom(i, below(place[i])); s++) {
                moveTo(i, below(place[i]));
            }
            if (place[i] == from) {
                stuck[i] = Math.min(MAX_STUCK, stuck[i] + 1);
                run[i] = 0;
            } else {
                run[i]++;
            }
        }

        int floorsToFall(int i) {
            boolean hasCompany = (lying[place[i]] & ~(1 << i)) != 0;
            switch (kinds[i]) {
                case LIMP: return hasCompany ? CLINGING_FALL : CARD_FALL;
                case PARCEL: return PARCEL_FALL;
                case ROLL: return Math.min(MOST_FALL, PARCEL_FALL + run[i]);
                default: return CARD_FALL;
            }
        }

        private boolean hasRoom(int i, int where) {
            return where == BOX || kinds[i] == SLIP || load[where] + thick[i] <= width;
        }

        void moveTo(int i, int where) {
            lying[place[i]] &= ~(1 << i);
            load[place[i]] -= thick[i];
            place[i] = where;
            lying[where] |= 1 << i;
            load[where] += thick[i];
        }

        void postAnew(int i, int floor) {
            moveTo(i, WAITS);
            postedAt[i] = floor;
            start[i] = tick;
            stuck[i] = 0;
            run[i] = 0;
        }

        void makeThick(int i, int thickness) {
            load[place[i]] += thickness - thick[i];
            thick[i] = thickness;
        }

        static int below(int floor) {
            return floor == 0 ? BOX : floor - 1;
        }

        boolean isInShaft(int i) {
            return place[i] != WAITS && place[i] != BOX;
        }

        int allLetters() {
            return (1 << letters) - 1;
        }

        int lettersOutside() {
            return allLetters() & ~lying[BOX];
        }

        int lettersInShaft() {
            return lettersOutside() & ~lying[WAITS];
        }

        int lettersBoxed() {
            return Integer.bitCount(lying[BOX]);
        }

        int stuckTogether() {
            int sum = 0;
            for (int i = 0; i < letters; i++) {
                sum += stuck[i];
            }
            return sum;
        }

        int thickTogether(int set) {
            int sum = 0;
            for (int i = 0; i < letters; i++) {
                if ((set >> i & 1) != 0) {
                    sum += thick[i];
                }
            }
            return sum;
        }
    }

    /** What is foretold: it tries things out on houses of its own, so that the one asked about stays. */
    private static final class Oracle {
        private final House trial = new House();
        private final House stage = new House();
        private final int[] tried = new int[LETTERS];
        final int[] bestOrder = new int[LETTERS];
        int fewestTicks = 0;
        /** For how many ticks the best order is known; 0: for none. */
        private int orderedFor = 0;
        private final int[] told = new int[MAX_TOLD];
        private int toldLength = 0;

        /** The house is another: what was found out about it no longer holds. */
        void forget() {
            orderedFor = 0;
        }

        House behind(House now, int n) {
            trial.copyFrom(now);
            trial.pass(n);
            return trial;
        }

        int ticksUntilPosted(House now, int letter) {
            trial.copyFrom(now);
            for (int t = 0; t <= MAX_AHEAD; t++) {
                if (trial.place[letter] != WAITS) {
                    return t;
                }
                trial.tickOnce();
            }
            return NONE;
        }

        int ticksUntilBoxed(House now, int set) {
            trial.copyFrom(now);
            for (int t = 0; t <= MAX_AHEAD; t++) {
                if ((set & ~trial.lying[BOX]) == 0) {
                    return t;
                }
                trial.tickOnce();
            }
            return NONE;
        }

        void findOrder(House now, int n) {
            if (orderedFor == n) {
                return;
            }
            fewestTicks = MORE_THAN_ANY_ORDER;
            extendOrder(now, n, 0, 0);
            orderedFor = n;
        }

        private void extendOrder(House now, int n, int depth, int used) {
            if (depth >= now.letters) {
                weighOrder(now, n);
                return;
            }
            for (int i = 0; i < now.letters; i++) {
                if ((used >> i & 1) == 0 && !couldStandEarlier(now, i, depth)) {
                    tried[depth] = i;
                    extendOrder(now, n, depth + 1, used | 1 << i);
                }
            }
        }

        /** Letters that do not meet at one floor as they are posted may change places in an order, with nothing
         *  else changed: of all orders that are alike by this only the first needs to be tried. */
        private boolean couldStandEarlier(House now, int i, int depth) {
            for (int d = depth - 1; d >= 0; d--) {
                int other = tried[d];
                if (now.place[i] == WAITS && now.place[other] == WAITS && now.postedAt[i] == now.postedAt[other]) {
                    return false;
                }
                if (other > i) {
                    return true;
                }
            }
            return false;
        }

        /** Each letter counts once behind each of 0 to n ticks in which it is not in the box: so its ticks add up. */
        private void weighOrder(House now, int n) {
            trial.copyFrom(now);
            System.arraycopy(tried, 0, trial.rank, 0, LETTERS);
            int outside = Integer.bitCount(trial.lettersOutside());
            int sum = outside;
            for (int t = 0; t < n && outside > 0 && sum < fewestTicks; t++) {
                trial.tickOnce();
                outside = Integer.bitCount(trial.lettersOutside());
                sum += outside;
            }
            if (sum < fewestTicks) {
                fewestTicks = sum;
                System.arraycopy(tried, 0, bestOrder, 0, LETTERS);
            }
        }

        int leastWide(House now, int n) {
            for (int v = MIN_WIDE; v <= MAX_WIDE; v++) {
                trial.copyFrom(now);
                trial.width = v;
                trial.pass(n);
                if (trial.lettersOutside() == 0) {
                    return v;
                }
            }
            return NONE;
        }

        int latestStart(House now, int letter, int n) {
            int latest = Math.min(MAX_START, now.tick + n - 1);
            // All starts up to this tick are alike, so the latest of them stands for the rest.
            int enough = Math.min(latest, now.tick);
            for (int s = latest; s >= enough; s--) {
                trial.copyFrom(now);
                trial.start[letter] = s;
                trial.pass(n);
                if (trial.place[letter] == BOX) {
                    return s;
                }
            }
            return NONE;
        }

        int boxedByTurns(House now, int n, int m) {
            stage.copyFrom(now);
            return playTurns(n, 0, m, -1, LETTERS + 1);
        }

        /** What comes of it from this turn on; what is at most low, or high and more, need not be exact. */
        private int playTurns(int n, int turn, int m, int low, int high) {
            if (turn >= n) {
                trial.copyFrom(stage);
                trial.pass(m);
                return trial.lettersBoxed();
            }
            int best = playTurns(n, turn + 1, m, low, high);
            if (turn % 2 == 1) {
                if (stage.width > MIN_WIDE && best > low) {
                    stage.width--;
                    best = Math.min(best, playTurns(n, turn + 1, m, low, Math.min(high, best)));
                    stage.width++;
                }
                return best;
            }
            for (int i = 0; i < stage.letters && best < high; i++) {
                if (stage.isInShaft(i)) {
                    int from = stage.place[i];
                    stage.moveTo(i, House.below(from));
                    best = Math.max(best, playTurns(n, turn + 1, m, Math.max(low, best), high));
                    stage.moveTo(i, from);
                }
            }
            return best;
        }

        void hear(int[] items, int from, int n) {
            toldLength = n;
            System.arraycopy(items, from, told, 0, n);
        }

        /** Whether the trial, as it goes on, is as it was told. */
        private boolean trialFits() {
            for (int t = 0; t < toldLength; t++) {
                trial.tickOnce();
                if (Integer.bitCount(trial.lettersInShaft()) + 10 * trial.lettersBoxed() != told[t]) {
                    return false;
                }
            }
            return true;
        }

        /** Which values, from low to high, of one thing about a letter or the shaft are as it was told, as bits. */
        int fitting(House now, int letter, int which, int low, int high) {
            int fitting = 0;
            for (int v = low; v <= high; v++) {
                trial.copyFrom(now);
                varyTrial(letter, which, v);
                if (trialFits()) {
                    fitting |= 1 << v;
                }
            }
            return fitting;
        }

        private void varyTrial(int letter, int which, int v) {
            switch (which) {
                case WHICH_KINDS: trial.kinds[letter] = v; break;
                case WHICH_THICKS: trial.makeThick(letter, v); break;
                case WHICH_FLOORS: trial.postedAt[letter] = v; break;
                default: trial.width = v;
            }
        }

        long chanceOfBox(House now, int letter, int n, int p, int what) {
            int waiting = now.lying[WAITS];
            long above = 0;
            for (int gone = 0; gone <= waiting; gone++) {
                if ((gone & ~waiting) == 0) {
                    int lost = Integer.bitCount(gone);
                    long cases = power(p, lost) * power(10 - p, Integer.bitCount(waiting) - lost);
                    if (cases > 0 && isBoxedWithout(now, letter, n, gone)) {
                        above += cases;
                    }
                }
            }
            long below = power(10, Integer.bitCount(waiting));
            long divisor = greatestDivisor(above, below);
            return what == 0 ? above / divisor : below / divisor;
        }

        private boolean isBoxedWithout(House now, int letter, int n, int gone) {
            if ((gone >> letter & 1) != 0) {
                return false;
            }
            trial.copyFrom(now);
            trial.neverPosted = gone;
            for (int t = 0; t < n && trial.place[letter] != BOX; t++) {
                trial.tickOnce();
            }
            return trial.place[letter] == BOX;
        }

        private static long power(int base, int exponent) {
            long product = 1;
            for (int e = 0; e < exponent; e++) {
                product *= base;
            }
            return product;
        }

        /** Of numbers that are 0 or more, the second above 0: so it is above 0 itself. */
        private static long greatestDivisor(long a, long b) {
            long greater = b;
            long rest = a;
            for (int step = 0; step < 200 && rest > 0; step++) {
                long next = greater % rest;
                greater = rest;
                rest = next;
            }
            return Math.max(1, greater);
        }

        int daysByDraws(House now, int n, int seed, int what) {
            trial.copyFrom(now);
            long x = seed;
            int came = 0;
            for (int t = 0; t < n && trial.letters > 0 && trial.floors > 0; t++) {
                x = x * 16807 % 2147483647L;
                int letter = (int) (x % trial.letters);
                if (trial.place[letter] == BOX) {
                    trial.postAnew(letter, (int) (x % trial.floors));
                } else if (x % 4 == 0) {
                    trial.width = (int) (x % 19) + 2;
                }
                int boxedAhead = trial.lettersBoxed();
                trial.tickOnce();
                came += trial.lettersBoxed() - boxedAhead;
            }
            return what == 0 ? came : trial.stuckTogether();
        }
    }

    /** An ask of one letter, with the trace of the bodies that began. */
    private static final class Asking {
        final int[] bodies = new int[TRACE_LENGTH];
        int traced = 0;
        int number = 0;
        int thick = 0;
        int stuck = 0;

        void begin(int one, int thickness, int stuckSoFar) {
            traced = 0;
            number = one;
            thick = thickness;
            stuck = stuckSoFar;
        }

        void leave(int body) {
            if (traced < TRACE_LENGTH) {
                bodies[traced] = body;
                traced++;
            }
        }
    }

    /** What letters of a kind answer when asked; it keeps nothing, so one serves all letters of its kind. */
    private abstract static class Letter {
        int sizeFor(Asking asking) {
            asking.leave(10);
            return asking.thick;
        }

        int markFor(Asking asking) {
            asking.leave(20);
            return asking.number;
        }
    }

    private static class Card extends Letter {
        int sizeFor(Asking asking) {
            asking.leave(11);
            int lent = super.sizeFor(asking);
            return lent + markFor(asking);
        }

        int markFor(Asking asking) {
            asking.leave(21);
            return super.markFor(asking) + asking.stuck;
        }
    }

    private static final class Slip extends Card {
        int sizeFor(Asking asking) {
            asking.leave(12);
            return 0 - super.sizeFor(asking);
        }

        int markFor(Asking asking) {
            asking.leave(24);
            return 2 * super.markFor(asking);
        }
    }

    private static final class Limp extends Card {
        int markFor(Asking asking) {
            asking.leave(22);
            return super.markFor(asking) - 1000;
        }
    }

    private static class Parcel extends Letter {
        int sizeFor(Asking asking) {
            asking.leave(13);
            return super.sizeFor(asking) - 100;
        }

        int markFor(Asking asking) {
            asking.leave(23);
            int lent = super.markFor(asking);
            return lent - sizeFor(asking);
        }
    }

    private static final class Roll extends Parcel {
        int sizeFor(Asking asking) {
            asking.leave(14);
            return 2 * super.sizeFor(asking);
        }
    }
}
