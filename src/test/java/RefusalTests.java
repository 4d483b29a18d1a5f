import java.util.ArrayList;
import java.util.List;
import java.util.NoSuchElementException;
import java.util.function.IntSupplier;
import java.util.function.Supplier;
import java.util.function.ToIntFunction;

/**
 * Calls that are refused: which exception each one throws, ahead of which other, that it changes
 * nothing, and what takes away the LAND, the ROWS and the PLAN.
 */
public final class RefusalTests {
    private static final Class<IllegalStateException> STATE = IllegalStateException.class;
    private static final Class<IllegalArgumentException> ARGUMENT = IllegalArgumentException.class;
    private static final Class<IndexOutOfBoundsException> INDEX = IndexOutOfBoundsException.class;
    private static final Class<UnsupportedOperationException> UNSUPPORTED = UnsupportedOperationException.class;
    private static final Class<NoSuchElementException> NO_SUCH = NoSuchElementException.class;
    private static final int NONE = FieldRows.NONE;
    private static final int LEAST = Integer.MIN_VALUE;
    private static final int MOST = Integer.MAX_VALUE;
    /** 40 times this is 0 in an int, so a square's place must not be reckoned ahead of the test of y. */
    private static final int WRAP = 1 << 29;

    private static final Check CHECK = new Check("RefusalTests");

    private interface Call {
        int on(FieldRows f);
    }

    private interface Order {
        void on(FieldRows f);
    }

    public static void main(String[] args) {
        rings();
        laying();
        rowsAndTurns();
        plans();
        slants();
        squaresAndReaper();
        looks();
        answersNone();
        notLaid();
        noRows();
        noPlan();
        noSum();
        takenAway();
        takenAwayWithThePlan();
        leftAlone();
        after512Calls();
        CHECK.end();
    }

    /** An object that has all: a ring of twelve corners, LAND, three ROWS, PLAN, five slants, a RUN with a wagon. */
    private static FieldRows full() {
        FieldRows f = new FieldRows();
        Fields.ring(f, 0, 0, 0, 2, 0, 4, 0, 6, 0, 6, 1, 6, 3, 6, 5, 4, 5, 2, 5, 0, 5, 0, 3, 0, 1);
        Fields.ring(f, 1, 20, 20, 22, 20, 22, 22);
        f.corner(3, 7, 7);
        f.lay(1);
        f.slant(0, 1);
        f.slant(1, 0);
        f.slant(1, 1);
        f.slant(1, -1);
        f.slant(-1, 0);
        f.rows(1, 0, 2);
        f.best();
        f.swing(1, 2);
        f.yields(1, 1, 600);
        f.yields(2, 1, 500);
        f.bears(1, 1, 999);
        f.reaper(1000, 400, 7);
        f.run();
        return f;
    }

    /** What calls tell that change nothing. */
    private static String told(FieldRows f) {
        StringBuilder all = new StringBuilder(Fields.countsOf(f));
        all.append(" / ").append(Fields.looksOf(f)).append(" / ").append(Fields.planOf(f));
        all.append(" / ").append(Fields.wagonsOf(f));
        for (int ring = 0; ring < 4; ring++) {
            all.append(" / ").append(f.area(ring));
        }
        all.append(" / ").append(Fields.landOf(f, 7, 6)).append(" / ").append(Fields.rowsOf(f, 7, 6));
        for (int row = 0; row < f.count(4); row++) {
            all.append(" / ").append(Fields.rowOf(f, row));
        }
        return all.toString();
    }

    /** What is told only by changing something: the yields, the reaper, the slants, the corners. */
    private static String toldAtLast(FieldRows f) {
        StringBuilder all = new StringBuilder();
        all.append(f.run()).append(" / ").append(Fields.looksOf(f)).append(" / ").append(Fields.wagonsOf(f));
        all.append(" / ").append(f.choose(2)).append(" / ").append(Fields.planOf(f)).append(" / ").append(f.unslant());
        for (int ring = 0; ring < 4; ring++) {
            all.append(" / ").append(f.clear(ring));
        }
        return all.toString();
    }

    /** The call throws, and changes nothing. */
    private static void refused(String what, Class<? extends RuntimeException> due, Call call) {
        FieldRows f = full();
        String before = told(f);
        CHECK.fails(what, due, () -> call.on(f));
        CHECK.same(what + ": nothing changes", before, told(f));
        CHECK.same(what + ": nor what is told at last", toldAtLast(full()), toldAtLast(f));
    }

    private static void refusedOrder(String what, Class<? extends RuntimeException> due, Order order) {
        refused(what, due, f -> {
            order.on(f);
            return 0;
        });
    }

    /** The call answers NONE, and changes nothing. */
    private static void none(String what, Call call) {
        FieldRows f = full();
        String before = told(f);
        CHECK.is(what, NONE, () -> call.on(f));
        CHECK.same(what + ": nothing changes", before, told(f));
        CHECK.same(what + ": nor what is told at last", toldAtLast(full()), toldAtLast(f));
    }

    private static void rings() {
        for (int wrong : new int[] {-1, 4, LEAST, MOST}) {
            refused("2: no such RING " + wrong, INDEX, f -> f.corner(wrong, 1, 1));
            refused("2: nor a corner", INDEX, f -> f.corner(wrong, -1, 31));
            refused("3: no such RING " + wrong, INDEX, f -> f.clear(wrong));
            refused("4: no such RING " + wrong, INDEX, f -> f.area(wrong));
        }
        for (int wrong : new int[] {-1, 41, LEAST, MOST}) {
            refused("2: x " + wrong, ARGUMENT, f -> f.corner(1, wrong, 1));
            refused("2: x " + wrong + " to the RING that has 12", ARGUMENT, f -> f.corner(0, wrong, 1));
        }
        for (int wrong : new int[] {-1, 31, 40, LEAST, MOST}) {
            refused("2: y " + wrong, ARGUMENT, f -> f.corner(1, 1, wrong));
            refused("2: y " + wrong + " to the RING that has 12", ARGUMENT, f -> f.corner(0, 1, wrong));
        }
        refused("2: the RING has 12", UNSUPPORTED, f -> f.corner(0, 0, 0));
        refused("2: the RING has 12, the greatest corner", UNSUPPORTED, f -> f.corner(0, 40, 30));
    }

    private static void laying() {
        for (int wrong : new int[] {-1, 6, LEAST, MOST}) {
            refused("5: H " + wrong, ARGUMENT, f -> f.lay(wrong));
        }
    }

    private static void rowsAndTurns() {
        for (int wrong : new int[] {-10, 10, LEAST, MOST}) {
            refused("7: a " + wrong, ARGUMENT, f -> f.rows(wrong, 1, 2));
            refused("7: b " + wrong, ARGUMENT, f -> f.rows(1, wrong, 2));
        }
        refused("7: (0, 0)", ARGUMENT, f -> f.rows(0, 0, 2));
        for (int wrong : new int[] {0, -1, 401, LEAST, MOST}) {
            refused("7: WIDTH " + wrong, ARGUMENT, f -> f.rows(1, 0, wrong));
            refused("18: WIDTH " + wrong, ARGUMENT, f -> f.choose(wrong));
        }
        for (int wrong : new int[] {-1, 3, 1 << 30, LEAST, MOST}) {
            refused("8: ROW " + wrong, NO_SUCH, f -> f.row(wrong, 0));
        }
        for (int wrong : new int[] {-1, 6, LEAST, MOST}) {
            refused("8: what " + wrong, NO_SUCH, f -> f.row(0, wrong));
            refused("8: neither ROW nor what " + wrong, NO_SUCH, f -> f.row(3, wrong));
            refused("11: from " + wrong, NO_SUCH, f -> f.turn(wrong, 2));
            refused("11: to " + wrong, NO_SUCH, f -> f.turn(2, wrong));
            refused("11: both " + wrong, NO_SUCH, f -> f.turn(wrong, wrong));
        }
        for (int row = 0; row < 3; row++) {
            int number = 2 * row;
            refused("11: from END 0 to END 1 of one", NO_SUCH, f -> f.turn(number, number + 1));
            refused("11: from END 1 to END 0 of one", NO_SUCH, f -> f.turn(number + 1, number));
            refused("11: from END 0 to itself", NO_SUCH, f -> f.turn(number, number));
            refused("11: from END 1 to itself", NO_SUCH, f -> f.turn(number + 1, number + 1));
        }
    }

    private static void plans() {
        for (int wrong : new int[] {-1, LEAST}) {
            refused("15: i " + wrong, ARGUMENT, f -> f.swing(wrong, 1));
            refused("15: both " + wrong, ARGUMENT, f -> f.swing(wrong, wrong));
        }
        for (int wrong : new int[] {3, MOST}) {
            refused("15: j " + wrong, ARGUMENT, f -> f.swing(1, wrong));
            refused("15: both " + wrong, ARGUMENT, f -> f.swing(wrong, wrong));
        }
        refused("15: j one ahead of i", ARGUMENT, f -> f.swing(1, 0));
        refused("15: j two ahead of i", ARGUMENT, f -> f.swing(2, 0));
        refused("15: from the least to the most", ARGUMENT, f -> f.swing(LEAST, MOST));
    }

    private static void slants() {
        none("16: a sixth slant", f -> f.slant(1, 0));
        none("16: a sixth that is none", f -> f.slant(0, 0));
        for (int wrong : new int[] {-10, 10, LEAST, MOST}) {
            CHECK.is("16: a " + wrong, NONE, () -> fourSlants().slant(wrong, 1));
            CHECK.is("16: b " + wrong, NONE, () -> fourSlants().slant(1, wrong));
            FieldRows f = fourSlants();
            f.slant(wrong, wrong);
            CHECK.is("16: does not come", 4, () -> f.count(6));
        }
        FieldRows f = fourSlants();
        CHECK.is("16: (0, 0)", NONE, () -> f.slant(0, 0));
        CHECK.is("16: the fifth still can", 5, () -> f.slant(-9, 9));
        CHECK.is("16: a sixth", NONE, () -> f.slant(9, 9));
        CHECK.is("17: five were", 5, f::unslant);
        CHECK.is("17: none are", 0, f::unslant);
    }

    private static FieldRows fourSlants() {
        FieldRows f = new FieldRows();
        f.slant(9, 0);
        f.slant(0, 9);
        f.slant(-9, 0);
        f.slant(0, -9);
        return f;
    }

    private static void squaresAndReaper() {
        for (int wrong : new int[] {-1, 40, LEAST, MOST}) {
            refusedOrder("19: x " + wrong, INDEX, f -> f.yields(wrong, 1, 1));
            refusedOrder("19: nor a YIELD", INDEX, f -> f.yields(wrong, 1, 1001));
            refusedOrder("20: x " + wrong, INDEX, f -> f.bears(wrong, 1, 1));
            refusedOrder("20: nor what it BEARS", INDEX, f -> f.bears(wrong, 1, 1000001));
        }
        for (int wrong : new int[] {-1, 30, WRAP, LEAST, MOST}) {
            refusedOrder("19: y " + wrong, INDEX, f -> f.yields(1, wrong, 1));
            refusedOrder("20: y " + wrong, INDEX, f -> f.bears(1, wrong, 1));
        }
        for (int wrong : new int[] {-1, 1001, LEAST, MOST}) {
            refusedOrder("19: v " + wrong, ARGUMENT, f -> f.yields(1, 1, wrong));
            refusedOrder("21: UNLOAD " + wrong, ARGUMENT, f -> f.reaper(2, 2, wrong));
        }
        for (int wrong : new int[] {-1, 1000001, LEAST, MOST}) {
            refusedOrder("20: v " + wrong, ARGUMENT, f -> f.bears(1, 1, wrong));
            refusedOrder("21: WEIGHT " + wrong, ARGUMENT, f -> f.reaper(2, wrong, 2));
        }
        for (int wrong : new int[] {0, -1, 100001, LEAST, MOST}) {
            refusedOrder("21: CAPACITY " + wrong, ARGUMENT, f -> f.reaper(wrong, 2, 2));
        }
    }

    private static void looks() {
        for (int wrong : new int[] {-1, 8, LEAST, MOST}) {
            refused("23: what " + wrong, NO_SUCH, f -> f.look(wrong));
        }
        CHECK.fails("23: what 8 ahead of any RUN", NO_SUCH, () -> new FieldRows().look(8));
        CHECK.is("23: what 7 ahead of any RUN", 0, () -> new FieldRows().look(7));
    }

    private static void answersNone() {
        for (int wrong : new int[] {-1, 40, LEAST, MOST}) {
            none("6: x " + wrong, f -> f.square(wrong, 1));
            none("9: x " + wrong, f -> f.rowOf(wrong, 1));
            none("10: x " + wrong, f -> f.way(wrong, 1, 1, 1));
            none("10: to x " + wrong, f -> f.way(1, 1, wrong, 1));
        }
        for (int wrong : new int[] {-1, 30, WRAP, LEAST, MOST}) {
            none("6: y " + wrong, f -> f.square(1, wrong));
            none("9: y " + wrong, f -> f.rowOf(1, wrong));
            none("10: y " + wrong, f -> f.way(1, wrong, 1, 1));
            none("10: to y " + wrong, f -> f.way(1, 1, 1, wrong));
        }
        none("10: none such to itself", f -> f.way(-1, 0, -1, 0));
        none("10: OUT to itself", f -> f.way(6, 0, 6, 0));
        none("10: from OUT", f -> f.way(6, 0, 5, 0));
        none("10: to OUT", f -> f.way(5, 0, 6, 0));
        for (int wrong : new int[] {-1, 3, LEAST, MOST}) {
            none("14: k " + wrong, f -> f.plan(wrong));
        }
        for (int wrong : new int[] {-1, 1, LEAST, MOST}) {
            none("24: k " + wrong, f -> f.wagon(wrong));
        }
        for (int wrong : new int[] {-1, 8, LEAST, MOST}) {
            none("25: what " + wrong, f -> f.count(wrong));
        }
    }

    private static void refusedIn(String state, Supplier<FieldRows> made, List<Call> calls) {
        for (int k = 0; k < calls.size(); k++) {
            FieldRows f = made.get();
            Call call = calls.get(k);
            String before = Fields.countsOf(f) + Fields.planOf(f) + Fields.looksOf(f);
            IntSupplier answer = () -> call.on(f);
            CHECK.fails(state + ", call " + k, STATE, answer);
            CHECK.same(state + ", call " + k + ": nothing changes", before,
                    Fields.countsOf(f) + Fields.planOf(f) + Fields.looksOf(f));
        }
    }

    /** Calls that need the LAND; the second of each pair is wrong as well, which is told later. */
    private static List<Call> needLand() {
        List<Call> all = new ArrayList<>();
        all.add(f -> f.square(0, 0));
        all.add(f -> f.square(-1, 30));
        all.add(f -> f.rows(1, 0, 2));
        all.add(f -> f.rows(0, 0, 2));
        all.add(f -> f.rows(1, 0, 0));
        all.add(f -> f.way(0, 0, 0, 0));
        all.add(f -> f.way(-1, 0, 0, 30));
        all.add(f -> f.choose(2));
        all.add(f -> f.choose(0));
        all.add(f -> f.choose(401));
        return all;
    }

    private static List<Call> needRows() {
        List<Call> all = new ArrayList<>();
        all.add(f -> f.row(0, 0));
        all.add(f -> f.row(-1, 6));
        all.add(f -> f.rowOf(0, 0));
        all.add(f -> f.rowOf(-1, 30));
        all.add(f -> f.turn(0, 2));
        all.add(f -> f.turn(0, 0));
        all.add(f -> f.turn(-1, 120));
        all.add(FieldRows::best);
        all.add(FieldRows::bound);
        return all;
    }

    private static List<Call> needPlan() {
        List<Call> all = new ArrayList<>();
        all.add(f -> f.swing(0, 0));
        all.add(f -> f.swing(-1, 0));
        all.add(f -> f.swing(1, 0));
        all.add(FieldRows::run);
        return all;
    }

    private static FieldRows fullAfter(ToIntFunction<FieldRows> call) {
        FieldRows f = full();
        call.applyAsInt(f);
        return f;
    }

    /** "IllegalStateException: it is not LAID" */
    private static void notLaid() {
        List<Call> calls = needLand();
        calls.addAll(needRows());
        calls.addAll(needPlan());
        refusedIn("new", FieldRows::new, calls);
        refusedIn("with a ring", () -> Fields.newBox(6, 5), calls);
        refusedIn("after a corner", () -> fullAfter(f -> f.corner(2, 0, 0)), calls);
        refusedIn("after clear", () -> fullAfter(f -> f.clear(0)), calls);
        refusedIn("after clear of an empty ring", () -> fullAfter(f -> f.clear(2)), calls);
    }

    /** "or (where ROWS are asked for) there are no ROWS as yet" */
    private static void noRows() {
        List<Call> calls = needRows();
        calls.addAll(needPlan());
        refusedIn("laid", () -> Fields.laidBox(6, 5, 1), calls);
        refusedIn("laid with nothing", () -> {
            FieldRows f = new FieldRows();
            f.lay(0);
            return f;
        }, calls);
        refusedIn("laid anew", () -> fullAfter(f -> f.lay(1)), calls);
        refusedIn("more than 60 rows", RefusalTests::afterTooManyRows, calls);
        refusedIn("none chosen", () -> fullAfter(f -> f.unslant() + f.choose(2)), calls);
    }

    private static FieldRows afterTooManyRows() {
        FieldRows f = Fields.laidBox(32, 30, 0);
        f.rows(1, 0, 2);
        f.best();
        f.rows(1, 1, 1);
        return f;
    }

    /** "IllegalStateException: there is no PLAN" */
    private static void noPlan() {
        List<Call> calls = needPlan();
        refusedIn("rows", Fields::threeRows, calls);
        refusedIn("rows anew", () -> fullAfter(f -> f.rows(1, 0, 2)), calls);
        refusedIn("no best", () -> {
            FieldRows f = Fields.apart();
            f.rows(1, 0, 400);
            f.best();
            return f;
        }, calls);
        refusedIn("no rows at all, no best asked for", () -> {
            FieldRows f = Fields.laidBox(2, 2, 5);
            f.rows(1, 0, 1);
            return f;
        }, calls);
    }

    /** "or its SUM is none" */
    private static void noSum() {
        FieldRows f = Fields.bareTriangle();
        f.best();
        f.yields(0, 0, 9);
        CHECK.is("22: a PLAN with a SUM", 18, f::run);
        String before = Fields.looksOf(f);
        f.yields(0, 1, 9);
        CHECK.is("22: turned round", NONE, () -> f.swing(1, 2));
        CHECK.fails("22: its SUM is none", STATE, f::run);
        CHECK.same("22: the latest RUN stays", before, Fields.looksOf(f));
        CHECK.same("22: the PLAN stays", "0 5 3", Fields.planOf(f));
        CHECK.is("22: and can be turned back", 12, () -> f.swing(1, 2));
        CHECK.is("22: and run", 18, f::run);
        CHECK.is("22: anew", 18, () -> f.look(2));
    }

    /** "corner(), clear(), lay(), where they throw nothing, take away what was LAID, and ROWS" */
    private static void takenAway() {
        FieldRows corner = full();
        CHECK.is("corner", 2, () -> corner.corner(3, 8, 8));
        CHECK.same("corner takes LAND, ROWS and PLAN, not slants", "0 0 0 0 0 0 5 0", Fields.countsOf(corner));
        CHECK.same("nor the latest RUN", Fields.looksOf(full()), Fields.looksOf(corner));
        CHECK.is("nor its wagon", 42, () -> corner.wagon(0));
        CHECK.is("no number", NONE, () -> corner.plan(0));
        FieldRows clear = full();
        CHECK.is("clear of an empty ring", 0, () -> clear.clear(2));
        CHECK.same("takes the same", "0 0 0 0 0 0 5 0", Fields.countsOf(clear));
        CHECK.is("no number", NONE, () -> clear.plan(0));
        FieldRows lay = full();
        CHECK.is("lay with the same H", 30, () -> lay.lay(1));
        CHECK.same("takes ROWS and PLAN, and lays anew", "1 30 18 12 0 0 5 1", Fields.countsOf(lay));
        CHECK.is("no number", NONE, () -> lay.plan(0));
        CHECK.is("another H", 30, () -> lay.lay(0));
        CHECK.same("is of the land anew", "1 30 0 30 0 0 5 0", Fields.countsOf(lay));
        CHECK.is("and back", 30, () -> lay.lay(2));
        CHECK.same("none is left of the earlier", "1 30 28 2 0 0 5 2", Fields.countsOf(lay));
        lay.clear(0);
        CHECK.is("nothing to lay", 0, () -> lay.lay(2));
        CHECK.same("is laid, too", "1 0 0 0 0 0 5 2", Fields.countsOf(lay));
    }

    /** "what takes ROWS away, and rows(), take the PLAN away, too" */
    private static void takenAwayWithThePlan() {
        FieldRows rows = full();
        CHECK.is("rows, the same again", 3, () -> rows.rows(1, 0, 2));
        CHECK.same("take the PLAN", "1 30 18 12 3 0 5 1", Fields.countsOf(rows));
        CHECK.is("no number", NONE, () -> rows.plan(0));
        FieldRows none = Fields.laidBox(32, 30, 0);
        none.rows(1, 0, 2);
        none.best();
        CHECK.is("too many rows", NONE, () -> none.rows(1, 1, 1));
        CHECK.same("take ROWS and PLAN", "1 960 0 960 0 0 0 0", Fields.countsOf(none));
        CHECK.is("no number", NONE, () -> none.plan(0));
        CHECK.is("ROWS can come again", 30, () -> none.rows(1, 0, 2));
        FieldRows choose = full();
        choose.unslant();
        CHECK.is("no slant to choose", NONE, () -> choose.choose(2));
        CHECK.same("takes ROWS and PLAN", "1 30 18 12 0 0 0 1", Fields.countsOf(choose));
        CHECK.is("no number", NONE, () -> choose.plan(0));
        FieldRows best = full();
        CHECK.is("best anew", 10, best::best);
        CHECK.same("is another PLAN of the same ROWS", "0 3 4", Fields.planOf(best));
    }

    /** What takes nothing away. */
    private static void leftAlone() {
        FieldRows f = full();
        String before = told(f);
        f.area(0);
        f.square(1, 1);
        f.row(0, 0);
        f.rowOf(1, 1);
        f.way(0, 0, 5, 4);
        f.turn(0, 3);
        f.bound();
        f.plan(0);
        f.look(0);
        f.wagon(0);
        f.yields(3, 3, 1);
        f.bears(3, 3, 1);
        f.reaper(5, 5, 5);
        CHECK.same("questions, yields, bears and reaper leave all", before, told(f));
        f.unslant();
        f.slant(1, 0);
        CHECK.same("slants leave ROWS and PLAN", "1 30 18 12 3 1 1 1", Fields.countsOf(f));
        String plan = Fields.planOf(f);
        f.run();
        CHECK.same("a RUN leaves the PLAN", plan, Fields.planOf(f));
    }

    /** "An object is used for at most 512 calls": up to the last of them all holds. */
    private static void after512Calls() {
        FieldRows f = new FieldRows();
        for (int k = 0; k < 512 / 4 - 6; k++) {
            f.corner(0, 0, 0);
            f.clear(0);
            f.yields(0, 0, k);
            f.slant(1, 0);
        }
        Fields.box(f, 0, 0, 0, 6, 5);
        f.lay(1);
        f.rows(1, 0, 2);
        CHECK.is("best, the 495th", 10, f::best);
        CHECK.is("run", 22, f::run);
        CHECK.same("all counts, up to the 504th", "1 30 18 12 3 1 5 1", Fields.countsOf(f));
        CHECK.is("lay", 30, () -> f.lay(5));
        CHECK.is("no inner", 0, () -> f.count(3));
        CHECK.is("rows", 0, () -> f.rows(1, 0, 2));
        CHECK.is("best", 0, f::best);
        CHECK.is("run", 0, f::run);
        CHECK.is("plan", NONE, () -> f.plan(0));
        CHECK.is("clear", 4, () -> f.clear(0));
        CHECK.fails("the 512th", STATE, () -> f.square(0, 0));
    }
}
