import java.util.ArrayList;
import java.util.Comparator;
import java.util.List;
import java.util.NoSuchElementException;
import java.util.TreeMap;

/**
 * The document a second time, as slow and as near to its words as can be, for ModelTests to compare
 * with. It shares nothing with FieldRows on purpose.
 */
final class Model {
    static final class Place {
        final int x;
        final int y;

        Place(int x, int y) {
            this.x = x;
            this.y = y;
        }
    }

    static final class Row {
        final int strip;
        final List<Place> places = new ArrayList<>();

        Row(int strip) {
            this.strip = strip;
        }
    }

    private final List<List<Place>> rings = new ArrayList<>();
    private final int[][] yields = new int[40][30];
    private final int[][] bears = new int[40][30];
    private final List<int[]> slants = new ArrayList<>();
    private int capacity = 1000;
    private int weight = 0;
    private int unload = 0;

    private int[][] kinds;
    private int head;
    private List<Row> rows;
    private int slantA;
    private int slantB;
    private List<Integer> plan;

    private int[] findings = new int[8];
    private List<Integer> wagons = new ArrayList<>();

    Model() {
        for (int k = 0; k < 4; k++) {
            rings.add(new ArrayList<>());
        }
        for (int x = 0; x < 40; x++) {
            for (int y = 0; y < 30; y++) {
                bears[x][y] = 1000000;
            }
        }
    }

    int corner(int ring, int x, int y) {
        if (ring < 0 || ring > 3) {
            throw new IndexOutOfBoundsException();
        }
        if (x < 0 || x > 40 || y < 0 || y > 30) {
            throw new IllegalArgumentException();
        }
        if (rings.get(ring).size() == 12) {
            throw new UnsupportedOperationException();
        }
        rings.get(ring).add(new Place(x, y));
        unlay();
        return rings.get(ring).size();
    }

    int clear(int ring) {
        if (ring < 0 || ring > 3) {
            throw new IndexOutOfBoundsException();
        }
        int had = rings.get(ring).size();
        rings.get(ring).clear();
        unlay();
        return had;
    }

    int area(int ring) {
        if (ring < 0 || ring > 3) {
            throw new IndexOutOfBoundsException();
        }
        List<Place> corners = rings.get(ring);
        int sum = 0;
        for (int k = 0; k < corners.size(); k++) {
            Place p = corners.get(k);
            Place q = corners.get((k + 1) % corners.size());
            // Trapezes down to the x axis, another sum than the one of FieldRows.
            sum += (q.x - p.x) * (p.y + q.y);
        }
        return corners.size() < 3 ? 0 : Math.abs(sum);
    }

    int lay(int h) {
        if (h < 0 || h > 5) {
            throw new IllegalArgumentException();
        }
        unlay();
        kinds = new int[40][30];
        head = h;
        for (int x = 0; x < 40; x++) {
            for (int y = 0; y < 30; y++) {
                kinds[x][y] = isField(x, y) ? 2 : 0;
            }
        }
        for (int x = 0; x < 40; x++) {
            for (int y = 0; y < 30; y++) {
                if (kinds[x][y] != 0 && isNearOut(x, y)) {
                    kinds[x][y] = 1;
                }
            }
        }
        return counted(1) + counted(2);
    }

    private boolean isNearOut(int x, int y) {
        for (int dx = -head; dx <= head; dx++) {
            for (int dy = -head; dy <= head; dy++) {
                if (!isPlace(x + dx, y + dy) || kinds[x + dx][y + dy] == 0) {
                    return true;
                }
            }
        }
        return false;
    }

    private boolean isField(int x, int y) {
        return isIn(0, x, y) && !isIn(1, x, y) && !isIn(2, x, y) && !isIn(3, x, y);
    }

    private boolean isIn(int ring, int x, int y) {
        List<Place> corners = rings.get(ring);
        if (corners.size() < 3) {
            return false;
        }
        int crossed = 0;
        for (int k = 0; k < corners.size(); k++) {
            Place p = corners.get(k);
            Place q = corners.get((k + 1) % corners.size());
            Place low = p.y < q.y ? p : q;
            Place high = p.y < q.y ? q : p;
            if (high.y > y + 0.5 && low.y < y + 0.5) {
                // x + 1/2 < low.x + (y + 1/2 - low.y) (high.x - low.x) / (high.y - low.y), times 2 and the rise
                long left = (2L * x + 1) * (high.y - low.y);
                long right = 2L * low.x * (high.y - low.y) + (2L * y + 1 - 2L * low.y) * (high.x - low.x);
                if (left < right) {
                    crossed++;
                }
            }
        }
        return crossed % 2 == 1;
    }

    int square(int x, int y) {
        needLaid();
        return isPlace(x, y) ? kinds[x][y] : -1;
    }

    int rows(int a, int b, int width) {
        needLaid();
        if (!isSlant(a, b) || width < 1 || width > 400) {
            throw new IllegalArgumentException();
        }
        plan = null;
        rows = rowsOf(a, b, width);
        slantA = a;
        slantB = b;
        return rows == null ? -1 : rows.size();
    }

    private int along(int a, int b, Place p) {
        return a * (2 * p.x + 1) + b * (2 * p.y + 1);
    }

    private Comparator<Place> byAlong(int a, int b) {
        return Comparator.<Place>comparingInt(p -> along(a, b, p)).thenComparingInt(p -> p.y).thenComparingInt(p -> p.x);
    }

    private List<Row> rowsOf(int a, int b, int width) {
        TreeMap<Integer, List<Place>> strips = new TreeMap<>();
        for (int x = 0; x < 40; x++) {
            for (int y = 0; y < 30; y++) {
                if (kinds[x][y] == 2) {
                    double strip = Math.floor((a * (2 * y + 1) - b * (2 * x + 1)) / (double) width);
                    strips.computeIfAbsent((int) strip, k -> new ArrayList<>()).add(new Place(x, y));
                }
            }
        }
        List<Row> all = new ArrayList<>();
        for (int strip : strips.keySet()) {
            List<Row> some = new ArrayList<>();
            List<Place> left = strips.get(strip);
            while (!left.isEmpty()) {
                Row row = new Row(strip);
                row.places.add(left.remove(0));
                boolean grown = true;
                while (grown) {
                    grown = growOnce(row.places, left);
                }
                row.places.sort(byAlong(a, b));
                some.add(row);
            }
            some.sort((r, s) -> byAlong(a, b).compare(r.places.get(0), s.places.get(0)));
            all.addAll(some);
        }
        return all.size() > 60 ? null : all;
    }

    private static boolean growOnce(List<Place> row, List<Place> left) {
        for (Place p : left) {
            for (Place q : row) {
                if (Math.abs(p.x - q.x) <= 1 && Math.abs(p.y - q.y) <= 1) {
                    row.add(p);
                    left.remove(p);
                    return true;
                }
            }
        }
        return false;
    }

    private Place end(int number) {
        List<Place> places = rows.get(number / 2).places;
        if (number % 2 == 0) {
            return places.get(0);
        }
        Place best = places.get(0);
        for (Place p : places) {
            int more = along(slantA, slantB, p) - along(slantA, slantB, best);
            if (more > 0 || more == 0 && (p.y < best.y || p.y == best.y && p.x < best.x)) {
                best = p;
            }
        }
        return best;
    }

    int row(int row, int what) {
        needRows();
        if (row < 0 || row >= rows.size() || what < 0 || what > 5) {
            throw new NoSuchElementException();
        }
        Row r = rows.get(row);
        int[] told = {r.strip, r.places.size(), end(2 * row).x, end(2 * row).y, end(2 * row + 1).x, end(2 * row + 1).y};
        return told[what];
    }

    int rowOf(int x, int y) {
        needRows();
        for (int k = 0; k < rows.size(); k++) {
            for (Place p : rows.get(k).places) {
                if (p.x == x && p.y == y) {
                    return k;
                }
            }
        }
        return -1;
    }

    int way(int x, int y, int toX, int toY) {
        needLaid();
        if (!isPlace(x, y) || !isPlace(toX, toY) || kinds[x][y] == 0 || kinds[toX][toY] == 0) {
            return -1;
        }
        return reached(new Place(x, y))[toX][toY];
    }

    /** All lengths from a place, by going over the land again and again till nothing gets shorter. */
    private int[][] reached(Place from) {
        int[][] lengths = new int[40][30];
        for (int[] column : lengths) {
            java.util.Arrays.fill(column, -1);
        }
        lengths[from.x][from.y] = 0;
        boolean changed = true;
        while (changed) {
            changed = false;
            for (int x = 0; x < 40; x++) {
                for (int y = 0; y < 30; y++) {
                    boolean leaves = kinds[x][y] == 1 || x == from.x && y == from.y;
                    if (leaves && lengths[x][y] >= 0 && spread(lengths, x, y)) {
                        changed = true;
                    }
                }
            }
        }
        return lengths;
    }

    private boolean spread(int[][] lengths, int x, int y) {
        boolean changed = false;
        for (int dx = -1; dx <= 1; dx++) {
            for (int dy = -1; dy <= 1; dy++) {
                if (!isPlace(x + dx, y + dy) || kinds[x + dx][y + dy] == 0) {
                    continue;
                }
                int length = lengths[x][y] + (dx != 0 && dy != 0 ? 7 : 5);
                int known = lengths[x + dx][y + dy];
                if ((dx != 0 || dy != 0) && (known < 0 || length < known)) {
                    lengths[x + dx][y + dy] = length;
                    changed = true;
                }
            }
        }
        return changed;
    }

    int turn(int from, int to) {
        needRows();
        if (from < 0 || from >= 2 * rows.size() || to < 0 || to >= 2 * rows.size() || from / 2 == to / 2) {
            throw new NoSuchElementException();
        }
        Place p = end(from);
        Place q = end(to);
        return way(p.x, p.y, q.x, q.y);
    }

    private int[][] allTurns(List<Row> made) {
        int[][] turns = new int[2 * made.size()][2 * made.size()];
        for (int from = 0; from < turns.length; from++) {
            int[][] lengths = reached(end(from));
            for (int to = 0; to < turns.length; to++) {
                turns[from][to] = lengths[end(to).x][end(to).y];
            }
        }
        return turns;
    }

    private static int sum(int[][] turns, List<Integer> plan) {
        int sum = 0;
        for (int k = 0; k + 1 < plan.size(); k++) {
            int turn = turns[plan.get(k) ^ 1][plan.get(k + 1)];
            if (turn < 0) {
                return -1;
            }
            sum += turn;
        }
        return sum;
    }

    int best() {
        needRows();
        int[][] turns = allTurns(rows);
        plan = rows.size() <= 9 ? bestOfFew(turns) : bestOfMany(turns);
        return plan == null ? -1 : sum(turns, plan);
    }

    private static final class Search {
        int least = Integer.MAX_VALUE;
        int shortest = Integer.MAX_VALUE;
        List<Integer> best;
    }

    private static List<Integer> bestOfFew(int[][] turns) {
        Search search = new Search();
        for (int from = 0; from < turns.length; from++) {
            for (int to = 0; to < turns.length; to++) {
                if (from / 2 != to / 2 && turns[from][to] >= 0) {
                    search.shortest = Math.min(search.shortest, turns[from][to]);
                }
            }
        }
        tryAll(turns, new ArrayList<>(), 0, search);
        return search.best;
    }

    /** All plans in the order of their numbers, so that of the least ones the first is kept. */
    private static void tryAll(int[][] turns, List<Integer> begun, int sum, Search search) {
        int left = turns.length / 2 - begun.size();
        if (left == 0) {
            if (sum < search.least) {
                search.least = sum;
                search.best = new ArrayList<>(begun);
            }
            return;
        }
        long turnsLeft = begun.isEmpty() ? left - 1 : left;
        if (search.best != null && sum + turnsLeft * search.shortest >= search.least) {
            return;
        }
        for (int next = 0; next < turns.length; next++) {
            if (begun.contains(next) || begun.contains(next ^ 1)) {
                continue;
            }
            int turn = begun.isEmpty() ? 0 : turns[begun.get(begun.size() - 1) ^ 1][next];
            if (turn >= 0) {
                begun.add(next);
                tryAll(turns, begun, sum + turn, search);
                begun.remove(begun.size() - 1);
            }
        }
    }

    private static List<Integer> bestOfMany(int[][] turns) {
        List<Integer> made = new ArrayList<>();
        made.add(0);
        while (made.size() < turns.length / 2) {
            int from = made.get(made.size() - 1) ^ 1;
            int next = -1;
            for (int to = 0; to < turns.length; to++) {
                boolean free = !made.contains(to) && !made.contains(to ^ 1) && turns[from][to] >= 0;
                if (free && (next < 0 || turns[from][to] < turns[from][next])) {
                    next = to;
                }
            }
            if (next < 0) {
                return null;
            }
            made.add(next);
        }
        List<Integer> better = betterOne(turns, made);
        while (better != null) {
            made = better;
            better = betterOne(turns, made);
        }
        return made;
    }

    private static List<Integer> betterOne(int[][] turns, List<Integer> made) {
        int sum = sum(turns, made);
        for (int i = 0; i < made.size(); i++) {
            for (int j = i; j < made.size(); j++) {
                List<Integer> turned = turnedRound(made, i, j);
                int turnedSum = sum(turns, turned);
                if (turnedSum >= 0 && turnedSum < sum) {
                    return turned;
                }
            }
        }
        return null;
    }

    private static List<Integer> turnedRound(List<Integer> made, int i, int j) {
        List<Integer> turned = new ArrayList<>(made.subList(0, i));
        for (int k = j; k >= i; k--) {
            turned.add(made.get(k) ^ 1);
        }
        turned.addAll(made.subList(j + 1, made.size()));
        return turned;
    }

    int bound() {
        needRows();
        int[][] turns = allTurns(rows);
        if (rows.size() < 2) {
            return 0;
        }
        List<Integer> leasts = new ArrayList<>();
        for (int row = 0; row < rows.size(); row++) {
            int least = -1;
            for (int end = 0; end < 2; end++) {
                for (int to = 0; to < turns.length; to++) {
                    int turn = turns[2 * row + end][to];
                    if (to / 2 != row && turn >= 0 && (least < 0 || turn < least)) {
                        least = turn;
                    }
                }
            }
            if (least < 0) {
                return -1;
            }
            leasts.add(least);
        }
        leasts.sort(null);
        leasts.remove(leasts.size() - 1);
        return leasts.stream().mapToInt(k -> k).sum();
    }

    int plan(int k) {
        return plan == null || k < 0 || k >= plan.size() ? -1 : plan.get(k);
    }

    int swing(int i, int j) {
        if (plan == null) {
            throw new IllegalStateException();
        }
        if (!(0 <= i && i <= j && j <= plan.size() - 1)) {
            throw new IllegalArgumentException();
        }
        plan = turnedRound(plan, i, j);
        return sum(allTurns(rows), plan);
    }

    int slant(int a, int b) {
        if (slants.size() == 5 || !isSlant(a, b)) {
            return -1;
        }
        slants.add(new int[] {a, b});
        return slants.size();
    }

    int unslant() {
        int had = slants.size();
        slants.clear();
        return had;
    }

    int choose(int width) {
        needLaid();
        if (width < 1 || width > 400) {
            throw new IllegalArgumentException();
        }
        int chosen = -1;
        int least = 0;
        for (int k = 0; k < slants.size(); k++) {
            if (rows(slants.get(k)[0], slants.get(k)[1], width) < 0) {
                continue;
            }
            int sum = best();
            int ticks = counted(2) + sum;
            if (sum >= 0 && (chosen < 0 || ticks < least)) {
                chosen = k;
                least = ticks;
            }
        }
        rows = null;
        plan = null;
        if (chosen >= 0) {
            rows(slants.get(chosen)[0], slants.get(chosen)[1], width);
            best();
        }
        return chosen;
    }

    void yields(int x, int y, int v) {
        if (!isPlace(x, y)) {
            throw new IndexOutOfBoundsException();
        }
        if (v < 0 || v > 1000) {
            throw new IllegalArgumentException();
        }
        yields[x][y] = v;
    }

    void bears(int x, int y, int v) {
        if (!isPlace(x, y)) {
            throw new IndexOutOfBoundsException();
        }
        if (v < 0 || v > 1000000) {
            throw new IllegalArgumentException();
        }
        bears[x][y] = v;
    }

    void reaper(int capacity, int weight, int unload) {
        if (capacity < 1 || capacity > 100000 || weight < 0 || weight > 1000000 || unload < 0 || unload > 1000) {
            throw new IllegalArgumentException();
        }
        this.capacity = capacity;
        this.weight = weight;
        this.unload = unload;
    }

    int run() {
        if (plan == null || sum(allTurns(rows), plan) < 0) {
            throw new IllegalStateException();
        }
        int ticks = sum(allTurns(rows), plan);
        int worked = 0;
        int all = 0;
        int bunker = 0;
        int taken = 0;
        int crushed = 0;
        int fullest = 0;
        wagons = new ArrayList<>();
        for (int number : plan) {
            List<Place> places = new ArrayList<>(rows.get(number / 2).places);
            Comparator<Place> order = byAlong(slantA, slantB);
            places.sort(number % 2 == 0 ? order : order.reversed());
            for (Place p : places) {
                if (bunker + yields[p.x][p.y] > capacity) {
                    wagons.add(40 * p.y + p.x);
                    taken += bunker;
                    bunker = 0;
                    ticks += unload;
                }
                bunker += yields[p.x][p.y];
                all += yields[p.x][p.y];
                fullest = Math.max(fullest, bunker);
                crushed += weight + bunker > bears[p.x][p.y] ? 1 : 0;
                worked++;
                ticks++;
            }
        }
        findings = new int[] {ticks, worked, all, bunker, wagons.size(), taken, crushed, fullest};
        return ticks;
    }

    int look(int what) {
        if (what < 0 || what > 7) {
            throw new NoSuchElementException();
        }
        return findings[what];
    }

    int wagon(int k) {
        return k < 0 || k >= wagons.size() ? -1 : wagons.get(k);
    }

    int count(int what) {
        boolean laid = kinds != null;
        switch (what) {
            case 0: return laid ? 1 : 0;
            case 1: return laid ? counted(1) + counted(2) : 0;
            case 2: return laid ? counted(1) : 0;
            case 3: return laid ? counted(2) : 0;
            case 4: return rows == null ? 0 : rows.size();
            case 5: return plan == null ? 0 : 1;
            case 6: return slants.size();
            case 7: return laid ? head : 0;
            default: return -1;
        }
    }

    private int counted(int kind) {
        int many = 0;
        for (int[] column : kinds) {
            for (int k : column) {
                many += k == kind ? 1 : 0;
            }
        }
        return many;
    }

    private void unlay() {
        kinds = null;
        rows = null;
        plan = null;
    }

    private void needLaid() {
        if (kinds == null) {
            throw new IllegalStateException();
        }
    }

    private void needRows() {
        if (rows == null) {
            throw new IllegalStateException();
        }
    }

    private static boolean isPlace(int x, int y) {
        return x >= 0 && x <= 39 && y >= 0 && y <= 29;
    }

    private static boolean isSlant(int a, int b) {
        return Math.abs((long) a) <= 9 && Math.abs((long) b) <= 9 && !(a == 0 && b == 0);
    }
}
