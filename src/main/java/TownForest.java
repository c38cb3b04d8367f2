import java.util.NoSuchElementException;

/**
 * A forest of towns whose links come and go, told by a text and changed by calls.
 *
 * <p>Every row is made in a constructor and used again, so that no call makes an object.
 */
public final class TownForest {
    public static final int NONE = -1;

    private static final int NOT_SO = -2;
    private static final int NOTHING_SEEN = -3;
    private static final int OUT_OF_RANGE = -3;
    private static final int NO_VALUE = NONE - 19999;

    private static final int MOST_TOWNS = 24;
    private static final int MOST_BYTES = 700;
    private static final int BYTES_OF_A_FEED = 20;
    private static final int MOST_UNDONE = 20;
    private static final int MOST = 9999;
    private static final int MOST_SEED = 99999;
    private static final int MOST_CHANCES = 60;

    private static final int FACTS_OF_A_WALK = 9;
    private static final int FACTS_OF_A_TOWN = 10;
    private static final int FACTS_OF_A_CHAIN = 5;
    private static final int FACTS_OF_CHANCE = 4;
    private static final int FACTS_OF_A_PAIR = 3;

    private static final int FAULT_NONE = 0;
    private static final int FAULT_TOKEN = 1;
    private static final int FAULT_TOO_MUCH = 2;
    private static final int FAULT_TOLD = 3;
    private static final int FAULT_NOT_TOLD = 4;

    private static final int BITS_OF_A_LETTER = 5;
    private static final int MOST_LETTERS = 6;
    /** What a letter has more than its number: a is 1. */
    private static final int AHEAD_OF_A = 'a' - 1;

    private static final int WORD_TOWN = ('t' - AHEAD_OF_A) << 25 | ('o' - AHEAD_OF_A) << 20
            | ('w' - AHEAD_OF_A) << 15 | ('n' - AHEAD_OF_A) << 10;
    private static final int WORD_LINK = ('l' - AHEAD_OF_A) << 25 | ('i' - AHEAD_OF_A) << 20
            | ('n' - AHEAD_OF_A) << 15 | ('k' - AHEAD_OF_A) << 10;
    private static final int WORD_ROOT = ('r' - AHEAD_OF_A) << 25 | ('o' - AHEAD_OF_A) << 20
            | ('o' - AHEAD_OF_A) << 15 | ('t' - AHEAD_OF_A) << 10;
    private static final int WORD_TOUCH = ('t' - AHEAD_OF_A) << 25 | ('o' - AHEAD_OF_A) << 20
            | ('u' - AHEAD_OF_A) << 15 | ('c' - AHEAD_OF_A) << 10 | ('h' - AHEAD_OF_A) << 5;
    private static final int WORD_SETTLE = ('s' - AHEAD_OF_A) << 25 | ('e' - AHEAD_OF_A) << 20
            | ('t' - AHEAD_OF_A) << 15 | ('t' - AHEAD_OF_A) << 10 | ('l' - AHEAD_OF_A) << 5
            | ('e' - AHEAD_OF_A);
    private static final int WORD_SEED = ('s' - AHEAD_OF_A) << 25 | ('e' - AHEAD_OF_A) << 20
            | ('e' - AHEAD_OF_A) << 15 | ('d' - AHEAD_OF_A) << 10;

    private static final int TOKEN_END = 0;
    private static final int TOKEN_WORD = 1;
    private static final int TOKEN_NUMBER = 2;
    private static final int TOKEN_MINUS_NUMBER = 3;
    private static final int TOKEN_SEMICOLON = 4;
    private static final int TOKEN_BAD = 5;

    private final int[] tape;
    private int tapeBytes;
    private final Forest forest;
    private final Names names;
    private final Teller teller;
    private final History history;
    private final Forest image;
    private boolean imageKept;
    private final Sight sight;
    private final Way way;
    private final Survey survey;
    private final Gamble gamble;

    public TownForest() {
        tape = new int[MOST_BYTES];
        tapeBytes = 0;
        forest = new Forest();
        names = new Names();
        teller = new Teller();
        history = new History();
        image = new Forest();
        imageKept = false;
        sight = new Sight();
        way = new Way();
        survey = new Survey();
        gamble = new Gamble();
    }

    // ---- the text

    public int feed(int a, int b, int c, int d, int e) {
        if (tapeBytes + BYTES_OF_A_FEED > MOST_BYTES) {
            return NONE;
        }
        feedNumber(a);
        feedNumber(b);
        feedNumber(c);
        feedNumber(d);
        feedNumber(e);
        return tapeBytes;
    }

    public int text(int n) {
        if (n < 0 || n > tapeBytes) {
            return NOT_SO;
        }
        tapeBytes = 0;
        if (!teller.tell(tape, n)) {
            return NONE;
        }
        takeTold();
        return teller.lines;
    }

    public int fault(int what) {
        switch (what) {
            case 0:
                return teller.fault;
            case 1:
                return teller.faultPlace;
            default:
                return NONE;
        }
    }

    public int named(int letters) {
        return names.find(letters);
    }

    // ---- what is done

    public int touch(int town) {
        if (!forest.has(town)) {
            return NONE;
        }
        history.remember(forest);
        int before = forest.switches;
        forest.touchAt(town);
        return forest.switches - before;
    }

    public int reroot(int town) {
        if (!forest.has(town)) {
            return NONE;
        }
        history.remember(forest);
        int before = forest.switches;
        forest.rerootAt(town);
        return forest.switches - before;
    }

    public int link(int a, int b, int length, int cap) {
        if (!canBeLink(a, b, length, cap)) {
            return NONE;
        }
        if (forest.hangTogether(a, b)) {
            return NOT_SO;
        }
        history.remember(forest);
        forest.linkUnder(a, b, length, cap);
        return forest.sizeOf(forest.rootOf(a));
    }

    public int cut(int a, int b) {
        if (!forest.hasBoth(a, b)) {
            return NONE;
        }
        int lower = forest.lowerOf(a, b);
        if (lower == NONE) {
            return NOT_SO;
        }
        int length = forest.length[lower];
        history.remember(forest);
        forest.cutBetween(a, b);
        return length;
    }

    public int walk(int a, int b) {
        if (!forest.hasBoth(a, b)) {
            return NONE;
        }
        way.lay(forest, a, b);
        if (way.towns == 0) {
            return NOT_SO;
        }
        history.remember(forest);
        int before = forest.switches;
        forest.walkFrom(a, b);
        sight.look(forest, way, forest.switches - before);
        return way.lengths(forest);
    }

    public int seen(int what) {
        if (what < 0 || what >= FACTS_OF_A_WALK) {
            return NONE;
        }
        return sight.some ? sight.facts[what] : NOTHING_SEEN;
    }

    public int meet(int a, int b) {
        if (!forest.hasBoth(a, b)) {
            return NONE;
        }
        int meeting = forest.meetingOf(a, b);
        if (meeting == NONE) {
            return NOT_SO;
        }
        history.remember(forest);
        forest.touchAt(a);
        forest.touchAt(b);
        return meeting;
    }

    public int raise(int a, int b, int d) {
        if (!forest.hasBoth(a, b) || !isWithin(d, -MOST, MOST)) {
            return NONE;
        }
        way.lay(forest, a, b);
        if (way.towns == 0) {
            return NOT_SO;
        }
        if (!way.keepsWithin(forest, forest.length, d, 1)) {
            return OUT_OF_RANGE;
        }
        history.remember(forest);
        forest.walkFrom(a, b);
        way.addToAll(forest, forest.length, d);
        return way.towns - 1;
    }

    public int cutDearest(int a, int b) {
        if (!forest.hasBoth(a, b)) {
            return NONE;
        }
        way.lay(forest, a, b);
        if (way.towns < 2) {
            return NOT_SO;
        }
        int length = way.dearestLength(forest);
        history.remember(forest);
        forest.walkFrom(a, b);
        way.cutDearestLink(forest);
        return length;
    }

    public int send(int a, int b, int n) {
        if (!forest.hasBoth(a, b) || !isWithin(n, -MOST, MOST)) {
            return NONE;
        }
        way.lay(forest, a, b);
        if (way.towns == 0) {
            return NOT_SO;
        }
        if (!way.keepsWithin(forest, forest.cap, -n, 0)) {
            return OUT_OF_RANGE;
        }
        history.remember(forest);
        forest.walkFrom(a, b);
        way.addToAll(forest, forest.cap, -n);
        return way.towns - 1;
    }

    public int settle(int town) {
        if (!forest.has(town)) {
            return NONE;
        }
        history.remember(forest);
        return forest.settleTreeOf(town);
    }

    public int exchange(int a, int b, int length, int cap) {
        if (!canBeLink(a, b, length, cap)) {
            return NONE;
        }
        way.lay(forest, a, b);
        if (way.towns == 1 || way.towns > 1 && way.dearestLength(forest) <= length) {
            return NOT_SO;
        }
        history.remember(forest);
        int gone = 0;
        if (way.towns > 1) {
            gone = way.dearestLength(forest);
            forest.walkFrom(a, b);
            way.cutDearestLink(forest);
        }
        forest.linkUnder(a, b, length, cap);
        return gone;
    }

    public int shed(int town) {
        if (!forest.has(town)) {
            return NONE;
        }
        int parent = forest.parent[town];
        if (parent == NONE) {
            return NOT_SO;
        }
        int length = forest.length[town];
        history.remember(forest);
        forest.cutBetween(parent, town);
        return length;
    }

    public int value(int town, int v) {
        if (!forest.has(town) || !isWithin(v, -MOST, MOST)) {
            return NO_VALUE;
        }
        history.remember(forest);
        int was = forest.value[town];
        forest.value[town] = v;
        return was;
    }

    // ---- what is asked

    public int town(int town, int what) throws IndexOutOfBoundsException, NoSuchElementException {
        if (!forest.has(town)) {
            throw new IndexOutOfBoundsException("no such town");
        }
        if (what < 0 || what >= FACTS_OF_A_TOWN) {
            throw new NoSuchElementException("no such what");
        }
        return factOfTown(town, what);
    }

    public int chain(int town, int what) {
        if (!forest.has(town) || what < 0 || what >= FACTS_OF_A_CHAIN) {
            return NONE;
        }
        int head = forest.headOf(town);
        int tail = forest.tailOf(town);
        switch (what) {
            case 0:
                return head;
            case 1:
                return tail;
            case 2:
                return forest.depthOf(tail) - forest.depthOf(head) + 1;
            case 3:
                return forest.depthOf(town) - forest.depthOf(head);
            default:
                way.lay(forest, head, tail);
                return way.lengths(forest);
        }
    }

    public int above(int town, int k) {
        if (!forest.has(town) || k < 0) {
            return NONE;
        }
        if (k > forest.depthOf(town)) {
            return NOT_SO;
        }
        return forest.climb(town, k);
    }

    public int along(int a, int b, int k) {
        if (!forest.hasBoth(a, b) || k < 0) {
            return NONE;
        }
        way.lay(forest, a, b);
        return k < way.towns ? way.row[k] : NOT_SO;
    }

    public int together(int a, int b) {
        if (!forest.hasBoth(a, b)) {
            return NONE;
        }
        return forest.hangTogether(a, b) ? 1 : 0;
    }

    public int far(int a, int b) {
        if (!forest.hasBoth(a, b)) {
            return NONE;
        }
        way.lay(forest, a, b);
        return way.towns == 0 ? NOT_SO : way.lengths(forest);
    }

    public int meets(int a, int b) {
        if (!forest.hasBoth(a, b)) {
            return NONE;
        }
        int meeting = forest.meetingOf(a, b);
        return meeting == NONE ? NOT_SO : meeting;
    }

    public int room(int a, int b) {
        if (!forest.hasBoth(a, b)) {
            return NONE;
        }
        way.lay(forest, a, b);
        return way.leastOf(forest, forest.cap);
    }

    public int order(int town, int k) {
        if (!forest.has(town) || k < 0) {
            return NONE;
        }
        survey.lineUp(forest, forest.rootOf(town));
        return k < survey.towns ? survey.row[k] : NOT_SO;
    }

    public int place(int town) {
        if (!forest.has(town)) {
            return NONE;
        }
        survey.lineUp(forest, forest.rootOf(town));
        return survey.placeOf(town);
    }

    public int joint(int a, int b, int what) {
        if (!forest.hasBoth(a, b) || what < 0 || what >= FACTS_OF_A_PAIR) {
            return NONE;
        }
        if (forest.hangTogether(a, b)) {
            return NOT_SO;
        }
        survey.findJoint(forest, a, b);
        return survey.pair[what];
    }

    public int tightest(int town) {
        if (!forest.has(town)) {
            return NONE;
        }
        return forest.lowerOfExtreme(town, forest.cap, -1);
    }

    public int heavy(int town) {
        if (!forest.has(town)) {
            return NONE;
        }
        int child = forest.heavyChildOf(town);
        return child == NONE ? NOT_SO : child;
    }

    public int potential() {
        return forest.heavyNotPreferred();
    }

    public int would(int town) {
        if (!forest.has(town)) {
            return NONE;
        }
        return forest.switchesTo(town);
    }

    public int widest(int town, int what) {
        if (!forest.has(town) || what < 0 || what >= FACTS_OF_A_PAIR) {
            return NONE;
        }
        survey.findWidest(forest, town);
        return survey.pair[what];
    }

    public int midst(int town) {
        if (!forest.has(town)) {
            return NONE;
        }
        return forest.midstOfTreeOf(town);
    }

    public int parts(int n) {
        if (!isWithin(n, 0, MOST)) {
            return NONE;
        }
        return forest.partsBy(n);
    }

    public int dearest(int town) {
        if (!forest.has(town)) {
            return NONE;
        }
        return forest.lowerOfExtreme(town, forest.length, 1);
    }

    public int leastFor(int k) {
        if (!isWithin(k, 1, MOST_TOWNS)) {
            return NONE;
        }
        int least = forest.leastLengthFor(k);
        return least == NONE ? NOT_SO : least;
    }

    public int chance(int seed, int n, int what) {
        if (seed < NONE || !isWithin(n, 1, MOST_CHANCES)) {
            return NONE;
        }
        if (what < 0 || what >= FACTS_OF_CHANCE || forest.towns == 0) {
            return NONE;
        }
        gamble.start(forest, seed == NONE ? names.seed : seed);
        for (int i = 0; i < n; i++) {
            gamble.doOne();
        }
        switch (what) {
            case 0:
                return gamble.trial.trees();
            case 1:
                return gamble.trial.switches;
            case 2:
                return gamble.trial.heavyNotPreferred();
            default:
                return gamble.trial.rootOf(0);
        }
    }

    // ---- undone, images

    public int undo() {
        return history.goBack(forest) ? history.steps : NONE;
    }

    public int keep() {
        image.copyFrom(forest);
        imageKept = true;
        return forest.trees();
    }

    public int back() {
        if (!imageKept) {
            return NONE;
        }
        forest.copyFrom(image);
        history.forget();
        return forest.trees();
    }

    public int count(int what) {
        switch (what) {
            case 0:
                return forest.towns;
            case 1:
                return forest.towns - forest.trees();
            case 2:
                return forest.trees();
            case 3:
                return forest.chains();
            case 4:
                return forest.switches;
            case 5:
                return history.steps;
            case 6:
                return tapeBytes;
            default:
                return NONE;
        }
    }

    // ---- helpers of the calls

    private static boolean isWithin(int number, int least, int most) {
        return number >= least && number <= most;
    }

    private boolean canBeLink(int a, int b, int length, int cap) {
        return forest.hasBoth(a, b) && isWithin(length, 1, MOST) && isWithin(cap, 1, MOST);
    }

    private void feedNumber(int number) {
        for (int shift = 24; shift >= 0; shift -= 8) {
            if (tapeBytes < MOST_BYTES) {
                tape[tapeBytes] = number >> shift & 255;
                tapeBytes++;
            }
        }
    }

    private void takeTold() {
        forest.copyFrom(teller.forest);
        names.copyFrom(teller.names);
        // What the text's own lines took are not switches by call.
        forest.switches = 0;
        imageKept = false;
        history.forget();
        sight.some = false;
    }

    private int factOfTown(int town, int what) {
        boolean isRoot = forest.parent[town] == NONE;
        switch (what) {
            case 0:
                return forest.value[town];
            case 1:
                return isRoot ? NOT_SO : forest.parent[town];
            case 2:
                return forest.preferred[town] == NONE ? NOT_SO : forest.preferred[town];
            case 3:
                return forest.rootOf(town);
            case 4:
                return forest.depthOf(town);
            case 5:
                return forest.sizeOf(town);
            case 6:
                return forest.valuesUnder(town);
            case 7:
                return isRoot ? NOT_SO : forest.length[town];
            case 8:
                return isRoot ? NOT_SO : forest.cap[town];
            default:
                return forest.childrenOf(town);
        }
    }

    // ---- classes

    /** The towns with all that calls change; a link's length and cap stand at its lower end. */
    private static final class Forest {
        final int[] parent;
        final int[] preferred;
        final int[] length;
        final int[] cap;
        final int[] value;
        /** Right behind weigh() only. */
        final int[] size;
        int towns;
        int switches;

        Forest() {
            parent = new int[MOST_TOWNS];
            preferred = new int[MOST_TOWNS];
            length = new int[MOST_TOWNS];
            cap = new int[MOST_TOWNS];
            value = new int[MOST_TOWNS];
            size = new int[MOST_TOWNS];
            towns = 0;
            switches = 0;
        }

        void clear() {
            towns = 0;
            switches = 0;
        }

        void copyFrom(Forest other) {
            System.arraycopy(other.parent, 0, parent, 0, MOST_TOWNS);
            System.arraycopy(other.preferred, 0, preferred, 0, MOST_TOWNS);
            System.arraycopy(other.length, 0, length, 0, MOST_TOWNS);
            System.arraycopy(other.cap, 0, cap, 0, MOST_TOWNS);
            System.arraycopy(other.value, 0, value, 0, MOST_TOWNS);
            towns = other.towns;
            switches = other.switches;
        }

        void addTown(int itsValue) {
            if (towns < MOST_TOWNS) {
                parent[towns] = NONE;
                preferred[towns] = NONE;
                length[towns] = 0;
                cap[towns] = 0;
                value[towns] = itsValue;
                towns++;
            }
        }

        boolean has(int t) {
            return t >= 0 && t < towns;
        }

        boolean hasBoth(int a, int b) {
            return has(a) && has(b);
        }

        // ---- what is done

        void touchAt(int t) {
            preferred[t] = NONE;
            int lower = t;
            int upper = parent[t];
            for (int step = 0; step < MOST_TOWNS && upper != NONE; step++) {
                if (preferred[upper] != lower) {
                    preferred[upper] = lower;
                    switches++;
                }
                lower = upper;
                upper = parent[upper];
            }
        }

        void rerootAt(int t) {
            touchAt(t);
            int lower = NONE;
            int upper = t;
            int movedLength = 0;
            int movedCap = 0;
            for (int step = 0; step < MOST_TOWNS && upper != NONE; step++) {
                int next = parent[upper];
                int nextLength = length[upper];
                int nextCap = cap[upper];
                parent[upper] = lower;
                length[upper] = movedLength;
                cap[upper] = movedCap;
                preferred[upper] = next;
                lower = upper;
                upper = next;
                movedLength = nextLength;
                movedCap = nextCap;
            }
        }

        void walkFrom(int a, int b) {
            rerootAt(a);
            touchAt(b);
        }

        void linkUnder(int a, int b, int itsLength, int itsCap) {
            walkFrom(a, b);
            parent[a] = b;
            length[a] = itsLength;
            cap[a] = itsCap;
        }

        /** There must be a link between the two. */
        void cutBetween(int a, int b) {
            walkFrom(a, b);
            parent[b] = NONE;
            length[b] = 0;
            cap[b] = 0;
            preferred[a] = NONE;
        }

        int settleTreeOf(int town) {
            int root = rootOf(town);
            int changed = 0;
            weigh();
            for (int t = 0; t < towns; t++) {
                if (rootOf(t) == root) {
                    int child = heavyOfWeighed(t);
                    if (preferred[t] != child) {
                        preferred[t] = child;
                        changed++;
                    }
                }
            }
            return changed;
        }

        // ---- up and down

        int rootOf(int t) {
            int top = t;
            for (int step = 0; step < MOST_TOWNS && parent[top] != NONE; step++) {
                top = parent[top];
            }
            return top;
        }

        int depthOf(int t) {
            int top = t;
            int depth = 0;
            for (int step = 0; step < MOST_TOWNS && parent[top] != NONE; step++) {
                top = parent[top];
                depth++;
            }
            return depth;
        }

        /** The k-th above a town, at most as far as the root. */
        int climb(int t, int k) {
            int top = t;
            for (int step = 0; step < MOST_TOWNS && step < k && parent[top] != NONE; step++) {
                top = parent[top];
            }
            return top;
        }

        boolean isOver(int top, int t) {
            int at = t;
            for (int step = 0; step < MOST_TOWNS && at != NONE; step++) {
                if (at == top) {
                    return true;
                }
                at = parent[at];
            }
            return false;
        }

        boolean hangTogether(int a, int b) {
            return rootOf(a) == rootOf(b);
        }

        /** NONE, if the two don't hang together. */
        int meetingOf(int a, int b) {
            int depthA = depthOf(a);
            int depthB = depthOf(b);
            int overA = climb(a, depthA - depthB);
            int overB = climb(b, depthB - depthA);
            for (int step = 0; step < MOST_TOWNS && overA != overB; step++) {
                if (overA == NONE || overB == NONE) {
                    return NONE;
                }
                overA = parent[overA];
                overB = parent[overB];
            }
            return overA;
        }

        /** The lower end of the link between two towns; NONE, if there is no link. */
        int lowerOf(int a, int b) {
            if (parent[a] == b) {
                return a;
            }
            return parent[b] == a ? b : NONE;
        }

        int headOf(int t) {
            int head = t;
            for (int step = 0; step < MOST_TOWNS; step++) {
                int upper = parent[head];
                if (upper == NONE || preferred[upper] != head) {
                    return head;
                }
                head = upper;
            }
            return head;
        }

        int tailOf(int t) {
            int tail = t;
            for (int step = 0; step < MOST_TOWNS && preferred[tail] != NONE; step++) {
                tail = preferred[tail];
            }
            return tail;
        }

        // ---- counts

        int trees() {
            int roots = 0;
            for (int t = 0; t < towns; t++) {
                if (parent[t] == NONE) {
                    roots++;
                }
            }
            return roots;
        }

        /** Each town but those that are preferred is the head of one. */
        int chains() {
            int heads = towns;
            for (int t = 0; t < towns; t++) {
                if (preferred[t] != NONE) {
                    heads--;
                }
            }
            return heads;
        }

        void weigh() {
            for (int t = 0; t < towns; t++) {
                size[t] = 0;
            }
            for (int t = 0; t < towns; t++) {
                int at = t;
                for (int step = 0; step < MOST_TOWNS && at != NONE; step++) {
                    size[at]++;
                    at = parent[at];
                }
            }
        }

        int sizeOf(int town) {
            weigh();
            return size[town];
        }

        int valuesUnder(int top) {
            int sum = 0;
            for (int t = 0; t < towns; t++) {
                if (isOver(top, t)) {
                    sum += value[t];
                }
            }
            return sum;
        }

        int childrenOf(int town) {
            int children = 0;
            for (int t = 0; t < towns; t++) {
                if (parent[t] == town) {
                    children++;
                }
            }
            return children;
        }

        int heavyChildOf(int town) {
            weigh();
            return heavyOfWeighed(town);
        }

        int heavyOfWeighed(int town) {
            for (int t = 0; t < towns; t++) {
                if (parent[t] == town && 2 * size[t] > size[town]) {
                    return t;
                }
            }
            return NONE;
        }

        int heavyNotPreferred() {
            int found = 0;
            weigh();
            for (int t = 0; t < towns; t++) {
                int child = heavyOfWeighed(t);
                if (child != NONE && preferred[t] != child) {
                    found++;
                }
            }
            return found;
        }

        int switchesTo(int t) {
            int found = 0;
            int lower = t;
            int upper = parent[t];
            for (int step = 0; step < MOST_TOWNS && upper != NONE; step++) {
                if (preferred[upper] != lower) {
                    found++;
                }
                lower = upper;
                upper = parent[upper];
            }
            return found;
        }

        // ---- of a whole tree

        /** The lower end of the link with most (sign 1) or least (sign -1) in a row. */
        int lowerOfExtreme(int town, int[] ofLinks, int sign) {
            int root = rootOf(town);
            int best = NOT_SO;
            for (int t = 0; t < towns; t++) {
                if (t != root && rootOf(t) == root
                        && (best == NOT_SO || sign * ofLinks[t] > sign * ofLinks[best])) {
                    best = t;
                }
            }
            return best;
        }

        int midstOfTreeOf(int town) {
            int root = rootOf(town);
            int best = NONE;
            int fewest = MOST_TOWNS;
            weigh();
            for (int t = 0; t < towns; t++) {
                if (rootOf(t) == root) {
                    int greatest = greatestPartOfWeighed(t, size[root]);
                    if (best == NONE || greatest < fewest) {
                        best = t;
                        fewest = greatest;
                    }
                }
            }
            return best;
        }

        /** Of all the towns of a tree, that one town aside. */
        int greatestPartOfWeighed(int town, int all) {
            int greatest = all - size[town];
            for (int t = 0; t < towns; t++) {
                if (parent[t] == town) {
                    greatest = Math.max(greatest, size[t]);
                }
            }
            return greatest;
        }

        int partsBy(int n) {
            int trees = towns;
            for (int t = 0; t < towns; t++) {
                if (parent[t] != NONE && length[t] <= n) {
                    trees--;
                }
            }
            return trees;
        }

        /** Only 0 or the length of a link can be the least one; NONE, if none will do. */
        int leastLengthFor(int k) {
            if (partsBy(0) <= k) {
                return 0;
            }
            int least = NONE;
            for (int t = 0; t < towns; t++) {
                if (parent[t] != NONE && (least == NONE || length[t] < least)
                        && partsBy(length[t]) <= k) {
                    least = length[t];
                }
            }
            return least;
        }
    }

    /** What the text tells that no call changes. */
    private static final class Names {
        final int[] letters;
        int towns;
        int seed;
        boolean seedTold;

        Names() {
            letters = new int[MOST_TOWNS];
            towns = 0;
            seed = 0;
            seedTold = false;
        }

        void clear() {
            towns = 0;
            seed = 0;
            seedTold = false;
        }

        void copyFrom(Names other) {
            System.arraycopy(other.letters, 0, letters, 0, MOST_TOWNS);
            towns = other.towns;
            seed = other.seed;
            seedTold = other.seedTold;
        }

        void add(int itsLetters) {
            if (towns < MOST_TOWNS) {
                letters[towns] = itsLetters;
                towns++;
            }
        }

        int find(int wanted) {
            for (int t = 0; t < towns; t++) {
                if (letters[t] == wanted) {
                    return t;
                }
            }
            return NONE;
        }
    }

    /** Takes one token after another from the bytes of a text. */
    private static final class Reader {
        int[] bytes;
        int end;
        int next;
        int kind;
        /** Where the token begins; at the end the text's length. */
        int start;
        int letters;
        int number;

        Reader() {
            bytes = new int[0];
            end = 0;
            next = 0;
            kind = TOKEN_END;
            start = 0;
            letters = 0;
            number = 0;
        }

        void open(int[] itsBytes, int itsEnd) {
            bytes = itsBytes;
            end = Math.min(itsEnd, itsBytes.length);
            next = 0;
            step();
        }

        void step() {
            while (next < end && (bytes[next] == 10 || bytes[next] == 32)) {
                next++;
            }
            start = next;
            if (next >= end) {
                kind = TOKEN_END;
            } else if (isLetterAt(next)) {
                readWord();
            } else if (isDigitAt(next)) {
                kind = TOKEN_NUMBER;
                readDigits();
            } else if (bytes[next] == '-' && isDigitAt(next + 1)) {
                kind = TOKEN_MINUS_NUMBER;
                next++;
                readDigits();
                number = -number;
            } else {
                kind = bytes[next] == ';' ? TOKEN_SEMICOLON : TOKEN_BAD;
                next++;
            }
        }

        boolean isLetterAt(int at) {
            return at < end && bytes[at] >= 'a' && bytes[at] <= 'z';
        }

        boolean isDigitAt(int at) {
            return at < end && bytes[at] >= '0' && bytes[at] <= '9';
        }

        void readWord() {
            letters = 0;
            int shift = BITS_OF_A_LETTER * (MOST_LETTERS - 1);
            while (next < end && isLetterAt(next)) {
                if (shift >= 0) {
                    letters |= bytes[next] - AHEAD_OF_A << shift;
                }
                shift -= BITS_OF_A_LETTER;
                next++;
            }
            kind = next - start > MOST_LETTERS ? TOKEN_BAD : TOKEN_WORD;
        }

        /** What is beyond every limit is told by no more digits: it can't run over. */
        void readDigits() {
            number = 0;
            while (next < end && isDigitAt(next)) {
                if (number <= MOST_SEED) {
                    number = number * 10 + bytes[next] - '0';
                }
                next++;
            }
        }
    }

    /** Does the lines of a text as they come, in a forest of its own: with a fault none may show. */
    private static final class Teller {
        final Reader reader;
        final Forest forest;
        final Names names;
        int lines;
        int fault;
        int faultPlace;

        Teller() {
            reader = new Reader();
            forest = new Forest();
            names = new Names();
            lines = 0;
            fault = FAULT_NONE;
            faultPlace = NONE;
        }

        /** Whether there was no fault. */
        boolean tell(int[] bytes, int end) {
            forest.clear();
            names.clear();
            lines = 0;
            fault = FAULT_NONE;
            faultPlace = NONE;
            reader.open(bytes, end);
            // A line has bytes of its own, so there are fewer lines than bytes.
            for (int i = 0; i <= MOST_BYTES && reader.kind != TOKEN_END; i++) {
                if (!tellLine()) {
                    return false;
                }
                lines++;
            }
            return true;
        }

        boolean fail(int what) {
            fault = what;
            faultPlace = reader.start;
            return false;
        }

        boolean tellLine() {
            if (reader.kind != TOKEN_WORD) {
                return fail(FAULT_TOKEN);
            }
            int word = reader.letters;
            switch (word) {
                case WORD_TOWN:
                    return tellTown();
                case WORD_LINK:
                    return tellLink();
                case WORD_ROOT:
                case WORD_TOUCH:
                case WORD_SETTLE:
                    return tellDeed(word);
                case WORD_SEED:
                    return tellSeed();
                default:
                    return fail(FAULT_TOKEN);
            }
        }

        boolean tellTown() {
            if (names.towns >= MOST_TOWNS) {
                return fail(FAULT_TOO_MUCH);
            }
            reader.step();
            if (!isAtName()) {
                return fail(FAULT_TOKEN);
            }
            int letters = reader.letters;
            if (names.find(letters) != NONE) {
                return fail(FAULT_TOLD);
            }
            reader.step();
            if (reader.kind != TOKEN_MINUS_NUMBER && !takesNumber()) {
                return false;
            }
            int itsValue = reader.number;
            if (!isWithin(itsValue, -MOST, MOST)) {
                return fail(FAULT_TOO_MUCH);
            }
            if (!endsLine()) {
                return false;
            }
            names.add(letters);
            forest.addTown(itsValue);
            return true;
        }

        boolean tellLink() {
            reader.step();
            if (!takesTown()) {
                return false;
            }
            int a = names.find(reader.letters);
            reader.step();
            if (!takesTown()) {
                return false;
            }
            int b = names.find(reader.letters);
            if (!forest.hasBoth(a, b) || forest.hangTogether(a, b)) {
                return fail(FAULT_TOLD);
            }
            reader.step();
            if (!takesNumberWithin(1, MOST)) {
                return false;
            }
            int length = reader.number;
            reader.step();
            if (!takesNumberWithin(1, MOST)) {
                return false;
            }
            int cap = reader.number;
            if (!endsLine()) {
                return false;
            }
            forest.linkUnder(a, b, length, cap);
            return true;
        }

        boolean tellDeed(int word) {
            reader.step();
            if (!takesTown()) {
                return false;
            }
            int town = names.find(reader.letters);
            if (!endsLine() || !forest.has(town)) {
                return false;
            }
            if (word == WORD_ROOT) {
                forest.rerootAt(town);
            } else if (word == WORD_TOUCH) {
                forest.touchAt(town);
            } else {
                forest.settleTreeOf(town);
            }
            return true;
        }

        boolean tellSeed() {
            if (names.seedTold) {
                return fail(FAULT_TOLD);
            }
            reader.step();
            if (!takesNumberWithin(0, MOST_SEED)) {
                return false;
            }
            names.seed = reader.number;
            names.seedTold = true;
            return endsLine();
        }

        boolean isAtName() {
            if (reader.kind != TOKEN_WORD) {
                return false;
            }
            switch (reader.letters) {
                case WORD_TOWN:
                case WORD_LINK:
                case WORD_ROOT:
                case WORD_TOUCH:
                case WORD_SETTLE:
                case WORD_SEED:
                    return false;
                default:
                    return true;
            }
        }

        boolean takesTown() {
            if (!isAtName()) {
                return fail(FAULT_TOKEN);
            }
            return names.find(reader.letters) != NONE || fail(FAULT_NOT_TOLD);
        }

        boolean takesNumber() {
            return reader.kind == TOKEN_NUMBER || fail(FAULT_TOKEN);
        }

        boolean takesNumberWithin(int least, int most) {
            if (!takesNumber()) {
                return false;
            }
            return isWithin(reader.number, least, most) || fail(FAULT_TOO_MUCH);
        }

        boolean endsLine() {
            reader.step();
            if (reader.kind != TOKEN_SEMICOLON) {
                return fail(FAULT_TOKEN);
            }
            reader.step();
            return true;
        }
    }

    /** The latest states ahead of what was done; the oldest makes room for a new one. */
    private static final class History {
        final Forest[] states;
        int oldest;
        int steps;

        History() {
            states = new Forest[MOST_UNDONE];
            for (int i = 0; i < MOST_UNDONE; i++) {
                states[i] = new Forest();
            }
            oldest = 0;
            steps = 0;
        }

        void forget() {
            oldest = 0;
            steps = 0;
        }

        void remember(Forest forest) {
            states[(oldest + steps) % MOST_UNDONE].copyFrom(forest);
            if (steps < MOST_UNDONE) {
                steps++;
            } else {
                oldest = (oldest + 1) % MOST_UNDONE;
            }
        }

        /** Whether there was a step to undo. */
        boolean goBack(Forest forest) {
            if (steps == 0) {
                return false;
            }
            steps--;
            forest.copyFrom(states[(oldest + steps) % MOST_UNDONE]);
            return true;
        }
    }

    /** The towns from one to another, and what lies on the links between them. */
    private static final class Way {
        final int[] row;
        int towns;

        Way() {
            row = new int[MOST_TOWNS];
            towns = 0;
        }

        /** Without towns, if the two don't hang together. */
        void lay(Forest forest, int a, int b) {
            towns = 0;
            int meeting = forest.meetingOf(a, b);
            if (meeting == NONE) {
                return;
            }
            int up = forest.depthOf(a) - forest.depthOf(meeting);
            int down = forest.depthOf(b) - forest.depthOf(meeting);
            towns = Math.min(up + 1 + down, MOST_TOWNS);
            int at = a;
            for (int i = 0; i <= up && i < towns && at != NONE; i++) {
                row[i] = at;
                at = forest.parent[at];
            }
            at = b;
            for (int i = towns - 1; i > up && at != NONE; i--) {
                row[i] = at;
                at = forest.parent[at];
            }
        }

        /** Where what lies on the i-th link stands; a walk may turn it over. */
        int lowerOfLink(Forest forest, int i) {
            int lower = forest.lowerOf(row[i], row[i + 1]);
            return lower == NONE ? row[i] : lower;
        }

        int lengths(Forest forest) {
            int sum = 0;
            for (int i = 0; i + 1 < towns; i++) {
                sum += forest.length[lowerOfLink(forest, i)];
            }
            return sum;
        }

        int values(Forest forest) {
            int sum = 0;
            for (int i = 0; i < towns; i++) {
                sum += forest.value[row[i]];
            }
            return sum;
        }

        /** NONE without links. */
        int dearestLink(Forest forest) {
            int best = NONE;
            int most = 0;
            for (int i = 0; i + 1 < towns; i++) {
                int length = forest.length[lowerOfLink(forest, i)];
                if (length > most) {
                    best = i;
                    most = length;
                }
            }
            return best;
        }

        int dearestLength(Forest forest) {
            int i = dearestLink(forest);
            return i == NONE ? NOT_SO : forest.length[lowerOfLink(forest, i)];
        }

        /** The end nearer to where the way begins first; nothing without links. */
        void cutDearestLink(Forest forest) {
            int i = dearestLink(forest);
            if (i != NONE) {
                forest.cutBetween(row[i], row[i + 1]);
            }
        }

        int leastOf(Forest forest, int[] ofLinks) {
            int least = NOT_SO;
            for (int i = 0; i + 1 < towns; i++) {
                int here = ofLinks[lowerOfLink(forest, i)];
                if (i == 0 || here < least) {
                    least = here;
                }
            }
            return least;
        }

        boolean keepsWithin(Forest forest, int[] ofLinks, int more, int least) {
            for (int i = 0; i + 1 < towns; i++) {
                if (!isWithin(ofLinks[lowerOfLink(forest, i)] + more, least, MOST)) {
                    return false;
                }
            }
            return true;
        }

        void addToAll(Forest forest, int[] ofLinks, int more) {
            for (int i = 0; i + 1 < towns; i++) {
                ofLinks[lowerOfLink(forest, i)] += more;
            }
        }
    }

    /** What the latest walk saw, as it was then. */
    private static final class Sight {
        final int[] facts;
        boolean some;

        Sight() {
            facts = new int[FACTS_OF_A_WALK];
            some = false;
        }

        void look(Forest forest, Way way, int switched) {
            int i = way.dearestLink(forest);
            some = true;
            facts[0] = way.lengths(forest);
            facts[1] = way.dearestLength(forest);
            facts[2] = i == NONE ? NOT_SO : way.row[i];
            facts[3] = i == NONE ? NOT_SO : way.row[i + 1];
            facts[4] = way.leastOf(forest, forest.cap);
            facts[5] = way.values(forest);
            facts[6] = way.towns;
            facts[7] = switched;
            facts[8] = way.leastOf(forest, forest.length);
        }
    }

    /** Looks over whole trees: their order, and how far all is from all. */
    private static final class Survey {
        final int[] row;
        int towns;
        final int[] open;
        final int[] home;
        final int[][] between;
        final int[] reach;
        final int[] pair;

        Survey() {
            row = new int[MOST_TOWNS];
            towns = 0;
            open = new int[MOST_TOWNS];
            home = new int[MOST_TOWNS];
            between = new int[MOST_TOWNS][MOST_TOWNS];
            reach = new int[MOST_TOWNS];
            pair = new int[FACTS_OF_A_PAIR];
        }

        /** The order of a tree; each town is opened once, so the rows are long enough. */
        void lineUp(Forest forest, int root) {
            towns = 0;
            open[0] = root;
            int opened = 1;
            for (int step = 0; step < MOST_TOWNS && opened > 0; step++) {
                opened--;
                int town = open[opened];
                row[towns] = town;
                towns++;
                opened = openChildren(forest, town, opened);
            }
        }

        /** The last one opened comes first, so they go in from behind, the preferred one last. */
        int openChildren(Forest forest, int town, int alreadyOpen) {
            int opened = alreadyOpen;
            int preferred = forest.preferred[town];
            for (int t = forest.towns - 1; t >= 0; t--) {
                if (forest.parent[t] == town && t != preferred && opened < MOST_TOWNS) {
                    open[opened] = t;
                    opened++;
                }
            }
            if (preferred != NONE && opened < MOST_TOWNS) {
                open[opened] = preferred;
                opened++;
            }
            return opened;
        }

        int placeOf(int town) {
            for (int i = 0; i < towns; i++) {
                if (row[i] == town) {
                    return i;
                }
            }
            return NONE;
        }

        /** In its order a town's parent is ahead of it, so what is known of that serves it. */
        void measure(Forest forest, int root) {
            lineUp(forest, root);
            for (int i = 0; i < towns; i++) {
                int town = row[i];
                int upper = forest.parent[town];
                between[town][town] = 0;
                for (int j = 0; j < i && upper != NONE; j++) {
                    int other = row[j];
                    int away = between[upper][other] + forest.length[town];
                    between[town][other] = away;
                    between[other][town] = away;
                }
            }
            for (int i = 0; i < towns; i++) {
                reach[row[i]] = farthestFrom(row[i]);
            }
        }

        int farthestFrom(int town) {
            int most = 0;
            for (int i = 0; i < towns; i++) {
                most = Math.max(most, between[town][row[i]]);
            }
            return most;
        }

        int widestReach() {
            int most = 0;
            for (int i = 0; i < towns; i++) {
                most = Math.max(most, reach[row[i]]);
            }
            return most;
        }

        void findHomes(Forest forest) {
            for (int t = 0; t < forest.towns; t++) {
                home[t] = forest.rootOf(t);
            }
        }

        void setPair(int away, int first, int second) {
            pair[0] = away;
            pair[1] = first;
            pair[2] = second;
        }

        void findWidest(Forest forest, int town) {
            int root = forest.rootOf(town);
            findHomes(forest);
            measure(forest, root);
            setPair(0, town, town);
            for (int a = 0; a < forest.towns; a++) {
                for (int b = a + 1; b < forest.towns; b++) {
                    if (home[a] == root && home[b] == root && between[a][b] > pair[0]) {
                        setPair(between[a][b], a, b);
                    }
                }
            }
        }

        void findJoint(Forest forest, int a, int b) {
            int rootA = forest.rootOf(a);
            int rootB = forest.rootOf(b);
            findHomes(forest);
            measure(forest, rootA);
            int within = widestReach();
            measure(forest, rootB);
            within = Math.max(within, widestReach());
            setPair(NONE, NONE, NONE);
            for (int u = 0; u < forest.towns; u++) {
                for (int v = 0; v < forest.towns; v++) {
                    if (home[u] == rootA && home[v] == rootB) {
                        int away = Math.max(within, reach[u] + 1 + reach[v]);
                        if (pair[0] == NONE || away < pair[0]) {
                            setPair(away, u, v);
                        }
                    }
                }
            }
        }
    }

    /** What comes by chance is done in a forest of its own: it is only asked how it would be then. */
    private static final class Gamble {
        final Forest trial;
        final Way way;
        int last;

        Gamble() {
            trial = new Forest();
            way = new Way();
            last = 0;
        }

        void start(Forest forest, int seed) {
            trial.copyFrom(forest);
            trial.switches = 0;
            last = seed;
        }

        int draw(int modulo) {
            last = last * 1103515245 + 12345 & 0x7fffffff;
            return modulo > 0 ? (last >> 16) % modulo : 0;
        }

        /** There must be a town. */
        void doOne() {
            int kind = draw(4);
            int a = draw(trial.towns);
            int b = draw(trial.towns);
            switch (kind) {
                case 0:
                    trial.touchAt(a);
                    break;
                case 1:
                    trial.rerootAt(a);
                    break;
                case 2:
                    if (!trial.hangTogether(a, b)) {
                        trial.linkUnder(a, b, draw(100) + 1, 1);
                    }
                    break;
                default:
                    way.lay(trial, a, b);
                    // Here it is cut without being walked to first, unlike cutDearest().
                    way.cutDearestLink(trial);
                    break;
            }
        }
    }
}
