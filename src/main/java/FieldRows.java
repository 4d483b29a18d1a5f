import java.util.Arrays;
import java.util.NoSuchElementException;

/**
 * An office that sends a reaper over fields of any corners. The document (DOC.md) says what each
 * call answers; its words in capitals are used here with the same meaning.
 *
 * <p>All arrays are made with the object and used again by every call, so that no call makes any.
 */
public final class FieldRows {
    public static final int NONE = -1;

    private static final int WIDE = 40;
    private static final int HIGH = 30;
    private static final int SQUARES = WIDE * HIGH;

    private static final int OUT = 0;
    private static final int HEAD = 1;
    private static final int INNER = 2;

    private static final int RINGS = 4;
    private static final int MOST_CORNERS = 12;
    private static final int MOST_HEAD = 5;
    private static final int MOST_WIDTH = 400;
    private static final int MOST_TILT = 9;
    private static final int MOST_SLANTS = 5;
    private static final int MOST_ROWS = 60;
    private static final int MOST_NUMBERS = 2 * MOST_ROWS;

    private static final int MOST_YIELD = 1000;
    private static final int MOST_BEARING = 1000000;
    private static final int MOST_CAPACITY = 100000;
    private static final int MOST_WEIGHT = 1000000;
    private static final int MOST_UNLOAD = 1000;

    private static final int STRAIGHT = 5;
    private static final int SLANTWISE = 7;

    /** What a step to each neighbour adds to a SQUARE's place: the straight ones first. */
    private static final int[] STEPS = {-1, 1, -40, 40, -41, -39, 39, 41};
    private static final int ALL_STEPS = 8;
    private static final int STRAIGHT_STEPS = 4;

    /** Stands for a length that is none: above every SUM, yet two of them are no overflow. */
    private static final int FAR = 1000000;

    private final Ring[] rings;
    private final Land land;
    private final Ways ways;
    private final Rows rows;
    private final Turns turns;
    private final Plan plan;
    private final Planner planner;
    private final Pairs slants;
    private final Reaper reaper;

    public FieldRows() {
        rings = new Ring[RINGS];
        for (int k = 0; k < RINGS; k++) {
            rings[k] = new Ring();
        }
        land = new Land();
        ways = new Ways(land);
        rows = new Rows(land);
        turns = new Turns(ways, rows);
        plan = new Plan(turns);
        planner = new Planner(plan, turns);
        slants = new Pairs(MOST_SLANTS);
        reaper = new Reaper();
    }

    public int corner(int ring, int x, int y)
            throws IndexOutOfBoundsException, IllegalArgumentException, UnsupportedOperationException {
        needRing(ring);
        if (x < 0 || x > WIDE || y < 0 || y > HIGH) {
            throw new IllegalArgumentException("no such corner");
        }
        if (rings[ring].corners.isFull()) {
            throw new UnsupportedOperationException("the ring has all its corners");
        }
        forgetLand();
        return rings[ring].corners.add(x, y);
    }

    public int clear(int ring) throws IndexOutOfBoundsException {
        needRing(ring);
        forgetLand();
        return rings[ring].corners.drop();
    }

    public int area(int ring) throws IndexOutOfBoundsException {
        needRing(ring);
        return rings[ring].twiceArea();
    }

    public int lay(int head) throws IllegalArgumentException {
        if (head < 0 || head > MOST_HEAD) {
            throw new IllegalArgumentException("no such headland");
        }
        forgetLand();
        land.layOut(rings, head);
        return land.fieldCount;
    }

    public int square(int x, int y) throws IllegalStateException {
        needLaid();
        return isSquare(x, y) ? land.kinds[squareAt(x, y)] : NONE;
    }

    public int rows(int a, int b, int width) throws IllegalStateException, IllegalArgumentException {
        needLaid();
        if (!isSlant(a, b)) {
            throw new IllegalArgumentException("no such slant");
        }
        needWidth(width);
        forgetRows();
        return rows.make(a, b, width);
    }

    public int row(int row, int what) throws IllegalStateException, NoSuchElementException {
        needRows();
        if (row < 0 || row >= rows.size) {
            throw new NoSuchElementException("no such row");
        }
        switch (what) {
            case 0:
                return rows.strips[rows.ends[2 * row]];
            case 1:
                return rows.starts[row + 1] - rows.starts[row];
            case 2:
                return rows.ends[2 * row] % WIDE;
            case 3:
                return rows.ends[2 * row] / WIDE;
            case 4:
                return rows.ends[2 * row + 1] % WIDE;
            case 5:
                return rows.ends[2 * row + 1] / WIDE;
            default:
                throw new NoSuchElementException("no such thing of a row");
        }
    }

    public int rowOf(int x, int y) throws IllegalStateException {
        needRows();
        return isSquare(x, y) ? rows.numbers[squareAt(x, y)] : NONE;
    }

    public int way(int x, int y, int toX, int toY) throws IllegalStateException {
        needLaid();
        if (!isSquare(x, y) || !isSquare(toX, toY)) {
            return NONE;
        }
        int from = squareAt(x, y);
        int to = squareAt(toX, toY);
        if (land.kinds[from] == OUT || land.kinds[to] == OUT) {
            return NONE;
        }
        ways.measureFrom(from);
        return orNone(ways.lengths[to]);
    }

    public int turn(int from, int to) throws IllegalStateException, NoSuchElementException {
        needRows();
        int numbers = 2 * rows.size;
        if (from < 0 || from >= numbers || to < 0 || to >= numbers) {
            throw new NoSuchElementException("no such row");
        }
        if (from / 2 == to / 2) {
            throw new NoSuchElementException("both ends are of one row");
        }
        turns.learn(from);
        return orNone(turns.length(from, to));
    }

    public int best() throws IllegalStateException {
        needRows();
        turns.learnAll();
        return planner.make(rows.size);
    }

    public int bound() throws IllegalStateException {
        needRows();
        turns.learnAll();
        return orNone(turns.leastOfAll());
    }

    public int plan(int k) {
        return plan.there && k >= 0 && k < plan.size ? plan.numbers[k] : NONE;
    }

    public int swing(int i, int j) throws IllegalStateException, IllegalArgumentException {
        needPlan();
        if (i < 0 || j < i || j >= plan.size) {
            throw new IllegalArgumentException("no such stretch of the plan");
        }
        plan.turnRound(i, j);
        return orNone(plan.sum());
    }

    public int slant(int a, int b) {
        return isSlant(a, b) && !slants.isFull() ? slants.add(a, b) : NONE;
    }

    public int unslant() {
        return slants.drop();
    }

    public int choose(int width) throws IllegalStateException, IllegalArgumentException {
        needLaid();
        needWidth(width);
        int chosen = NONE;
        int least = 0;
        for (int k = 0; k < slants.size; k++) {
            int sum = tryOut(k, width);
            if (sum != NONE && (chosen == NONE || land.innerCount + sum < least)) {
                chosen = k;
                least = land.innerCount + sum;
            }
        }
        if (chosen == NONE) {
            forgetRows();
        } else if (chosen != slants.size - 1) {
            tryOut(chosen, width);
        }
        return chosen;
    }

    public void yields(int x, int y, int v) throws IndexOutOfBoundsException, IllegalArgumentException {
        needSquare(x, y);
        if (v < 0 || v > MOST_YIELD) {
            throw new IllegalArgumentException("no such yield");
        }
        reaper.crop[squareAt(x, y)] = v;
    }

    public void bears(int x, int y, int v) throws IndexOutOfBoundsException, IllegalArgumentException {
        needSquare(x, y);
        if (v < 0 || v > MOST_BEARING) {
            throw new IllegalArgumentException("no such bearing");
        }
        reaper.bearing[squareAt(x, y)] = v;
    }

    public void reaper(int capacity, int weight, int unload) throws IllegalArgumentException {
        if (capacity < 1 || capacity > MOST_CAPACITY) {
            throw new IllegalArgumentException("no such capacity");
        }
        if (weight < 0 || weight > MOST_WEIGHT) {
            throw new IllegalArgumentException("no such weight");
        }
        if (unload < 0 || unload > MOST_UNLOAD) {
            throw new IllegalArgumentException("no such time to unload");
        }
        reaper.capacity = capacity;
        reaper.weight = weight;
        reaper.unload = unload;
    }

    public int run() throws IllegalStateException {
        needPlan();
        int sum = plan.sum();
        if (sum >= FAR) {
            throw new IllegalStateException("the plan has no sum");
        }
        return reaper.work(plan, rows, sum);
    }

    public int look(int what) throws NoSuchElementException {
        if (what < 0 || what >= Reaper.FINDINGS) {
            throw new NoSuchElementException("no such thing of a run");
        }
        return reaper.findings[what];
    }

    public int wagon(int k) {
        return k >= 0 && k < reaper.findings[Reaper.WAGONS] ? reaper.places[k] : NONE;
    }

    public int count(int what) {
        switch (what) {
            case 0:
                return land.laid ? 1 : 0;
            case 1:
                return land.fieldCount;
            case 2:
                return land.fieldCount - land.innerCount;
            case 3:
                return land.innerCount;
            case 4:
                return rows.size;
            case 5:
                return plan.there ? 1 : 0;
            case 6:
                return slants.size;
            case 7:
                return land.head;
            default:
                return NONE;
        }
    }

    private void needRing(int ring) {
        if (ring < 0 || ring >= RINGS) {
            throw new IndexOutOfBoundsException("no such ring");
        }
    }

    private void needSquare(int x, int y) {
        if (!isSquare(x, y)) {
            throw new IndexOutOfBoundsException("no such square");
        }
    }

    private void needWidth(int width) {
        if (width < 1 || width > MOST_WIDTH) {
            throw new IllegalArgumentException("no such width");
        }
    }

    private void needLaid() {
        if (!land.laid) {
            throw new IllegalStateException("the land is not laid");
        }
    }

    private void needRows() {
        if (!rows.there) {
            throw new IllegalStateException("there are no rows");
        }
    }

    private void needPlan() {
        if (!plan.there) {
            throw new IllegalStateException("there is no plan");
        }
    }

    private void forgetLand() {
        forgetRows();
        land.forget();
    }

    private void forgetRows() {
        plan.forget();
        turns.forget();
        rows.forget();
    }

    /** The ROWS and the PLAN of told slant k come: the PLAN's SUM, or NONE. */
    private int tryOut(int k, int width) {
        forgetRows();
        if (rows.make(slants.firsts[k], slants.seconds[k], width) == NONE) {
            return NONE;
        }
        turns.learnAll();
        return planner.make(rows.size);
    }

    private static boolean isSquare(int x, int y) {
        return x >= 0 && x < WIDE && y >= 0 && y < HIGH;
    }

    private static int squareAt(int x, int y) {
        return WIDE * y + x;
    }

    private static boolean isSlant(int a, int b) {
        return a >= -MOST_TILT && a <= MOST_TILT && b >= -MOST_TILT && b <= MOST_TILT && (a != 0 || b != 0);
    }

    private static int orNone(int length) {
        return length >= FAR ? NONE : length;
    }

    /** A row of pairs of numbers, up to so many. */
    private static final class Pairs {
        final int[] firsts;
        final int[] seconds;
        int size;

        Pairs(int most) {
            firsts = new int[Math.max(most, 0)];
            seconds = new int[Math.max(most, 0)];
        }

        boolean isFull() {
            return size >= firsts.length;
        }

        int add(int first, int second) {
            if (!isFull()) {
                firsts[size] = first;
                seconds[size] = second;
                size++;
            }
            return size;
        }

        int drop() {
            int had = size;
            size = 0;
            return had;
        }
    }

    /** A row of corners that closes itself. */
    private static final class Ring {
        final Pairs corners = new Pairs(MOST_CORNERS);

        int twiceArea() {
            if (corners.size < 3) {
                return 0;
            }
            int sum = 0;
            for (int p = 0; p < corners.size; p++) {
                int q = cornerAfter(p);
                sum += corners.firsts[p] * corners.seconds[q] - corners.firsts[q] * corners.seconds[p];
            }
            return Math.abs(sum);
        }

        boolean holds(int x, int y) {
            if (corners.size < 3) {
                return false;
            }
            boolean odd = false;
            for (int p = 0; p < corners.size; p++) {
                if (isLeftOfSide(x, y, p, cornerAfter(p))) {
                    odd = !odd;
                }
            }
            return odd;
        }

        private int cornerAfter(int p) {
            return p + 1 < corners.size ? p + 1 : 0;
        }

        private boolean isLeftOfSide(int x, int y, int p, int q) {
            int pY = corners.seconds[p];
            int qY = corners.seconds[q];
            // Corners are whole and middles are at the half: above y is above the middle.
            if ((pY > y) == (qY > y)) {
                return false;
            }
            // All is doubled and multiplied out, so that it stays exact; a falling side turns the sign.
            int rise = qY - pY;
            int middle = (2 * x + 1 - 2 * corners.firsts[p]) * rise;
            int line = (2 * y + 1 - 2 * pY) * (corners.firsts[q] - corners.firsts[p]);
            return rise > 0 ? middle < line : middle > line;
        }
    }

    /** What each SQUARE is. */
    private static final class Land {
        final int[] kinds = new int[SQUARES];
        /** Which STEPS from each SQUARE lead to one that is not OUT, a bit each. */
        final int[] nears = new int[SQUARES];
        private final int[] depths = new int[SQUARES];
        boolean laid;
        int head;
        int fieldCount;
        int innerCount;

        void forget() {
            laid = false;
            head = 0;
            fieldCount = 0;
            innerCount = 0;
        }

        void layOut(Ring[] rings, int headland) {
            laid = true;
            head = headland;
            markField(rings);
            markNears();
            sound();
            markHead();
        }

        private void markField(Ring[] rings) {
            fieldCount = 0;
            for (int s = 0; s < SQUARES; s++) {
                boolean field = isField(rings, s % WIDE, s / WIDE);
                kinds[s] = field ? INNER : OUT;
                if (field) {
                    fieldCount++;
                }
            }
        }

        private boolean isField(Ring[] rings, int x, int y) {
            if (rings.length < 1 || !rings[0].holds(x, y)) {
                return false;
            }
            for (int k = 1; k < rings.length; k++) {
                if (rings[k].holds(x, y)) {
                    return false;
                }
            }
            return true;
        }

        private void markNears() {
            for (int s = 0; s < SQUARES; s++) {
                nears[s] = 0;
                for (int k = 0; k < ALL_STEPS; k++) {
                    if (isStep(s, s + STEPS[k]) && kinds[s + STEPS[k]] != OUT) {
                        nears[s] |= 1 << k;
                    }
                }
            }
        }

        /** A step over the LAND's left or right edge would come out a whole row away. */
        private boolean isStep(int from, int to) {
            return to >= 0 && to < SQUARES && Math.abs(to % WIDE - from % WIDE) <= 1;
        }

        /** King's steps to what is OUT or beyond the LAND; two sweeps there and back find them all. */
        private void sound() {
            for (int s = 0; s < SQUARES; s++) {
                depths[s] = kinds[s] == OUT ? 0 : 1 + leastDepth(s % WIDE, s / WIDE, -1);
            }
            for (int s = SQUARES - 1; s >= 0; s--) {
                if (kinds[s] != OUT) {
                    depths[s] = Math.min(depths[s], 1 + leastDepth(s % WIDE, s / WIDE, 1));
                }
            }
        }

        private int leastDepth(int x, int y, int side) {
            int least = depthAt(x + side, y);
            for (int dx = -1; dx <= 1; dx++) {
                least = Math.min(least, depthAt(x + dx, y + side));
            }
            return least;
        }

        private int depthAt(int x, int y) {
            return isSquare(x, y) ? depths[squareAt(x, y)] : 0;
        }

        private void markHead() {
            innerCount = 0;
            for (int s = 0; s < SQUARES; s++) {
                if (kinds[s] != OUT && depths[s] <= head) {
                    kinds[s] = HEAD;
                } else if (kinds[s] != OUT) {
                    innerCount++;
                }
            }
        }
    }

    /**
     * The lengths of all WAYS from one SQUARE. Steps have two lengths only, and SQUARES are left in
     * the order of theirs; so what straight steps reach comes in order, and what slantwise steps
     * reach too, and two plain queues do what else a heap would.
     */
    private static final class Ways {
        private final Land land;
        final int[] lengths = new int[SQUARES];
        private final int[] straights = new int[SQUARES];
        private final int[] slantwises = new int[SQUARES];
        private int straightSize;
        private int slantwiseSize;

        Ways(Land land) {
            this.land = land;
        }

        void measureFrom(int from) {
            Arrays.fill(lengths, FAR);
            straightSize = 0;
            slantwiseSize = 0;
            lengths[from] = 0;
            stepFrom(from);
            int straightAt = 0;
            int slantwiseAt = 0;
            for (int k = 0; k < 2 * SQUARES; k++) {
                boolean straightLeft = straightAt < straightSize;
                boolean slantwiseLeft = slantwiseAt < slantwiseSize;
                if (!straightLeft && !slantwiseLeft) {
                    break;
                }
                // A straight one goes first of two alike: one that stands in both is then left from there.
                if (straightLeft && (!slantwiseLeft
                        || lengths[straights[straightAt]] <= lengths[slantwises[slantwiseAt]])) {
                    stepFrom(straights[straightAt]);
                    straightAt++;
                } else {
                    stepFrom(slantwises[slantwiseAt]);
                    slantwiseAt++;
                }
            }
        }

        private void stepFrom(int square) {
            int near = land.nears[square];
            int straight = lengths[square] + STRAIGHT;
            int slantwise = lengths[square] + SLANTWISE;
            for (int k = 0; k < ALL_STEPS; k++) {
                if ((near >> k & 1) != 0) {
                    int next = square + STEPS[k];
                    int length = k < STRAIGHT_STEPS ? straight : slantwise;
                    if (length < lengths[next]) {
                        reach(next, length, k < STRAIGHT_STEPS);
                    }
                }
            }
        }

        private void reach(int square, int length, boolean straight) {
            lengths[square] = length;
            if (land.kinds[square] != HEAD) {
                return;
            }
            if (straight && straightSize < SQUARES) {
                straights[straightSize] = square;
                straightSize++;
            } else if (!straight && slantwiseSize < SQUARES) {
                slantwises[slantwiseSize] = square;
                slantwiseSize++;
            }
        }
    }

    /** The INNER SQUARES as ROWS. */
    private static final class Rows {
        /** The greatest STRIP or ALONG there can be, without its sign. */
        private static final int MOST_KEY = MOST_TILT * (2 * WIDE - 1) + MOST_TILT * (2 * HIGH - 1);

        private final Land land;
        final int[] strips = new int[SQUARES];
        private final int[] alongs = new int[SQUARES];
        /** The ROW of each SQUARE, or NONE. */
        final int[] numbers = new int[SQUARES];
        private final int[] sorted = new int[SQUARES];
        private final int[] spare = new int[SQUARES];
        private final int[] tally = new int[2 * MOST_KEY + 2];
        /** The INNER SQUARES ROW by ROW, each from its END 0 on. */
        final int[] squares = new int[SQUARES];
        final int[] starts = new int[MOST_ROWS + 1];
        /** The SQUARE of each number 2 ROW + END. */
        final int[] ends = new int[MOST_NUMBERS];
        boolean there;
        int size;

        Rows(Land land) {
            this.land = land;
        }

        void forget() {
            there = false;
            size = 0;
        }

        int make(int a, int b, int width) {
            size = 0;
            gather(a, b, width);
            sortBy(alongs, sorted, spare);
            sortBy(strips, spare, sorted);
            there = numberAll();
            if (!there) {
                size = 0;
                return NONE;
            }
            sortBy(numbers, sorted, squares);
            markEnds();
            return size;
        }

        private void gather(int a, int b, int width) {
            int gathered = 0;
            for (int s = 0; s < SQUARES; s++) {
                numbers[s] = NONE;
                if (land.kinds[s] == INNER) {
                    int x = 2 * (s % WIDE) + 1;
                    int y = 2 * (s / WIDE) + 1;
                    strips[s] = Math.floorDiv(a * y - b * x, Math.max(width, 1));
                    alongs[s] = a * x + b * y;
                    sorted[gathered] = s;
                    gathered++;
                }
            }
        }

        /** Those of the same key stay in their order, so y, then x decide, and then each earlier key. */
        private void sortBy(int[] keys, int[] from, int[] to) {
            Arrays.fill(tally, 0);
            for (int k = 0; k < land.innerCount; k++) {
                tally[keys[from[k]] + MOST_KEY + 1]++;
            }
            for (int k = 1; k < tally.length; k++) {
                tally[k] += tally[k - 1];
            }
            for (int k = 0; k < land.innerCount; k++) {
                int key = keys[from[k]] + MOST_KEY;
                to[tally[key]] = from[k];
                tally[key]++;
            }
        }

        /** In the sorted order the first SQUARE of a ROW is met first, so ROWS get their numbers in turn. */
        private boolean numberAll() {
            for (int k = 0; k < land.innerCount; k++) {
                if (numbers[sorted[k]] == NONE) {
                    if (size >= MOST_ROWS) {
                        return false;
                    }
                    flood(sorted[k]);
                    size++;
                }
            }
            return true;
        }

        private void flood(int first) {
            numbers[first] = size;
            spare[0] = first;
            int filled = 1;
            for (int k = 0; k < filled && k < SQUARES; k++) {
                filled = floodFrom(spare[k], filled);
            }
        }

        private int floodFrom(int square, int filledSoFar) {
            int filled = filledSoFar;
            for (int k = 0; k < ALL_STEPS; k++) {
                if ((land.nears[square] >> k & 1) != 0 && filled < SQUARES) {
                    int next = square + STEPS[k];
                    if (land.kinds[next] == INNER && numbers[next] == NONE && strips[next] == strips[square]) {
                        numbers[next] = size;
                        spare[filled] = next;
                        filled++;
                    }
                }
            }
            return filled;
        }

        private void markEnds() {
            int latest = NONE;
            for (int k = 0; k < land.innerCount; k++) {
                int square = squares[k];
                int number = numbers[square];
                if (number != latest) {
                    latest = number;
                    starts[number] = k;
                    ends[2 * number] = square;
                    ends[2 * number + 1] = square;
                } else if (alongs[square] > alongs[ends[2 * number + 1]]) {
                    ends[2 * number + 1] = square;
                }
            }
            starts[size] = land.innerCount;
        }
    }

    /** The TURNS between all ENDS, measured from an END when it is first asked for. */
    private static final class Turns {
        private final Ways ways;
        private final Rows rows;
        private final int[] lengths = new int[MOST_NUMBERS * MOST_NUMBERS];
        private final boolean[] known = new boolean[MOST_NUMBERS];

        Turns(Ways ways, Rows rows) {
            this.ways = ways;
            this.rows = rows;
        }

        void forget() {
            for (int from = 0; from < MOST_NUMBERS; from++) {
                known[from] = false;
            }
        }

        void learnAll() {
            for (int from = 0; from < 2 * rows.size; from++) {
                learn(from);
            }
        }

        void learn(int from) {
            if (known[from]) {
                return;
            }
            ways.measureFrom(rows.ends[from]);
            for (int to = 0; to < 2 * rows.size; to++) {
                lengths[MOST_NUMBERS * from + to] = ways.lengths[rows.ends[to]];
            }
            known[from] = true;
        }

        int length(int from, int to) {
            return lengths[MOST_NUMBERS * from + to];
        }

        /** BOUND, FAR if it is none. */
        int leastOfAll() {
            if (rows.size < 2) {
                return 0;
            }
            int sum = 0;
            int greatest = 0;
            for (int row = 0; row < rows.size; row++) {
                int least = Math.min(leastFrom(2 * row), leastFrom(2 * row + 1));
                if (least >= FAR) {
                    return FAR;
                }
                sum += least;
                greatest = Math.max(greatest, least);
            }
            return sum - greatest;
        }

        private int leastFrom(int from) {
            int least = FAR;
            for (int to = 0; to < 2 * rows.size; to++) {
                if (to / 2 != from / 2) {
                    least = Math.min(least, length(from, to));
                }
            }
            return least;
        }
    }

    /** All ROWS in an order, each as the number 2 ROW + END of the END at which it is entered. */
    private static final class Plan {
        private final Turns turns;
        final int[] numbers = new int[MOST_ROWS];
        boolean there;
        int size;

        Plan(Turns turns) {
            this.turns = turns;
        }

        void forget() {
            there = false;
            size = 0;
        }

        void add(int number) {
            if (size < MOST_ROWS) {
                numbers[size] = number;
                size++;
            }
        }

        /** The SUM, FAR if it is none. */
        int sum() {
            int sum = 0;
            for (int k = 1; k < size; k++) {
                int length = turns.length(numbers[k - 1] ^ 1, numbers[k]);
                if (length >= FAR) {
                    return FAR;
                }
                sum += length;
            }
            return sum;
        }

        void turnRound(int first, int last) {
            int i = first;
            int j = last;
            while (i <= j) {
                int kept = numbers[i] ^ 1;
                numbers[i] = numbers[j] ^ 1;
                numbers[j] = kept;
                i++;
                j--;
            }
        }
    }

    /** Makes the BEST. */
    private static final class Planner {
        private static final int FEW = 9;
        private static final int FEW_NUMBERS = 2 * FEW;
        /** Above every SUM, and each turning round lessens it by one at least. */
        private static final int MOST_IMPROVEMENTS = FAR;

        private final Plan plan;
        private final Turns turns;
        /** Of each set of ROWS done and number entered last the least SUM from there to the end. */
        private final int[] rests = new int[(1 << FEW) * FEW_NUMBERS];

        Planner(Plan plan, Turns turns) {
            this.plan = plan;
            this.turns = turns;
        }

        /** The SUM of the PLAN that comes, or NONE; all TURNS must be learned. */
        int make(int rows) {
            plan.forget();
            if (rows <= FEW) {
                measureRests(rows);
                plan.there = followRests(rows);
            } else {
                plan.there = goNearest(rows);
            }
            if (!plan.there) {
                plan.forget();
                return NONE;
            }
            if (rows > FEW) {
                improve();
            }
            return plan.sum();
        }

        private boolean followRests(int rows) {
            int done = 0;
            int latest = NONE;
            for (int k = 0; k < rows; k++) {
                int next = firstOfFew(rows, done, latest);
                if (next == NONE) {
                    return false;
                }
                plan.add(next);
                done |= 1 << (next / 2);
                latest = next;
            }
            return true;
        }

        private void measureRests(int rows) {
            int all = (1 << rows) - 1;
            for (int done = all; done > 0; done--) {
                for (int latest = 0; latest < 2 * rows; latest++) {
                    if (isDone(done, latest)) {
                        int next = done == all ? NONE : firstOfFew(rows, done, latest);
                        int rest = next == NONE ? FAR : restThrough(done, latest, next);
                        rests[FEW_NUMBERS * done + latest] = done == all ? 0 : rest;
                    }
                }
            }
        }

        /** The first number through which the rest is least; NONE if it is none through any. */
        private int firstOfFew(int rows, int done, int latest) {
            int first = NONE;
            int least = FAR;
            for (int next = 0; next < 2 * rows; next++) {
                if (!isDone(done, next)) {
                    int rest = restThrough(done, latest, next);
                    if (rest < least) {
                        least = rest;
                        first = next;
                    }
                }
            }
            return first;
        }

        private int restThrough(int done, int latest, int next) {
            int length = latest == NONE ? 0 : turns.length(latest ^ 1, next);
            return length + rests[FEW_NUMBERS * (done | 1 << (next / 2)) + next];
        }

        private boolean goNearest(int rows) {
            plan.add(0);
            long done = 1L;
            for (int k = 1; k < rows; k++) {
                int next = nearest(rows, done, plan.numbers[k - 1] ^ 1);
                if (next == NONE) {
                    return false;
                }
                plan.add(next);
                done |= 1L << (next / 2);
            }
            return true;
        }

        private int nearest(int rows, long done, int from) {
            int first = NONE;
            int least = FAR;
            for (int next = 0; next < 2 * rows; next++) {
                if (!isDone(done, next) && turns.length(from, next) < least) {
                    least = turns.length(from, next);
                    first = next;
                }
            }
            return first;
        }

        private static boolean isDone(long done, int number) {
            return (done >> (number / 2) & 1L) != 0;
        }

        private void improve() {
            boolean improved = true;
            for (int k = 0; k < MOST_IMPROVEMENTS && improved; k++) {
                improved = turnFirstRound();
            }
        }

        private boolean turnFirstRound() {
            for (int i = 0; i < plan.size; i++) {
                for (int j = i; j < plan.size; j++) {
                    if (isLessTurnedRound(i, j)) {
                        plan.turnRound(i, j);
                        return true;
                    }
                }
            }
            return false;
        }

        /** A WAY is as long back as there, so only the TURNS into and out of the stretch change. */
        private boolean isLessTurnedRound(int i, int j) {
            int before = 0;
            int after = 0;
            if (i > 0) {
                int left = plan.numbers[i - 1] ^ 1;
                before += turns.length(left, plan.numbers[i]);
                after += turns.length(left, plan.numbers[j] ^ 1);
            }
            if (j < plan.size - 1) {
                int entered = plan.numbers[j + 1];
                before += turns.length(plan.numbers[j] ^ 1, entered);
                after += turns.length(plan.numbers[i], entered);
            }
            return after < before;
        }
    }

    /** The reaper, what it finds on each SQUARE, and what its latest RUN told. */
    private static final class Reaper {
        static final int FINDINGS = 8;
        static final int TICKS = 0;
        static final int WORKED = 1;
        static final int ALL_YIELD = 2;
        static final int BUNKER = 3;
        static final int WAGONS = 4;
        static final int TAKEN = 5;
        static final int CRUSHED = 6;
        static final int FULLEST = 7;

        final int[] crop = new int[SQUARES];
        final int[] bearing = new int[SQUARES];
        final int[] findings = new int[FINDINGS];
        /** Where the WAGONS came. */
        final int[] places = new int[SQUARES];
        int capacity = 1000;
        int weight;
        int unload;

        Reaper() {
            Arrays.fill(bearing, MOST_BEARING);
        }

        int work(Plan plan, Rows rows, int sum) {
            Arrays.fill(findings, 0);
            for (int k = 0; k < plan.size; k++) {
                workRow(rows, plan.numbers[k] / 2, plan.numbers[k] % 2 == 0);
            }
            findings[TICKS] += sum;
            return findings[TICKS];
        }

        private void workRow(Rows rows, int row, boolean fromFirst) {
            int start = rows.starts[row];
            int last = rows.starts[row + 1] - 1;
            for (int k = start; k <= last; k++) {
                workSquare(rows.squares[fromFirst ? k : start + last - k]);
            }
        }

        private void workSquare(int square) {
            if (findings[BUNKER] + crop[square] > capacity) {
                callWagon(square);
            }
            findings[BUNKER] += crop[square];
            findings[ALL_YIELD] += crop[square];
            findings[FULLEST] = Math.max(findings[FULLEST], findings[BUNKER]);
            if (weight + findings[BUNKER] > bearing[square]) {
                findings[CRUSHED]++;
            }
            findings[WORKED]++;
            findings[TICKS]++;
        }

        private void callWagon(int square) {
            if (findings[WAGONS] < SQUARES) {
                places[findings[WAGONS]] = square;
                findings[WAGONS]++;
            }
            findings[TAKEN] += findings[BUNKER];
            findings[BUNKER] = 0;
            findings[TICKS] += unload;
        }
    }
}
