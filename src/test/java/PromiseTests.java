import java.util.NoSuchElementException;

/** Each promise of the document: ordinary inputs, the edges that it names, and wrong inputs. */
public final class PromiseTests {
    private static final Class<IllegalStateException> STATE = IllegalStateException.class;
    private static final Class<IllegalArgumentException> ARGUMENT = IllegalArgumentException.class;
    private static final Class<IndexOutOfBoundsException> INDEX = IndexOutOfBoundsException.class;
    private static final Class<UnsupportedOperationException> UNSUPPORTED = UnsupportedOperationException.class;
    private static final Class<NoSuchElementException> NO_SUCH = NoSuchElementException.class;
    private static final int NONE = FieldRows.NONE;
    private static final int LEAST = Integer.MIN_VALUE;
    private static final int MOST = Integer.MAX_VALUE;

    private static final Check CHECK = new Check("PromiseTests");

    public static void main(String[] args) {
        aNewObject();
        corner();
        clear();
        area();
        layByTheRule();
        layWithHeadland();
        square();
        rows();
        rowsUpToSixty();
        row();
        rowOf();
        way();
        turn();
        bestOfFew();
        bestOfMany();
        bound();
        plan();
        swing();
        slant();
        unslant();
        choose();
        chooseAside();
        chooseBringsRowsAndPlan();
        yields();
        bears();
        reaper();
        runInOrder();
        runWithWagons();
        look();
        wagon();
        count();
        whatIsTakenAway();
        CHECK.end();
    }

    private static void aNewObject() {
        FieldRows f = new FieldRows();
        CHECK.is("1: NONE", -1, () -> FieldRows.NONE);
        CHECK.same("1: counts", "0 0 0 0 0 0 0 0", Fields.countsOf(f));
        CHECK.same("1: looks", "0 0 0 0 0 0 0 0", Fields.looksOf(f));
        for (int ring = 0; ring < 4; ring++) {
            int r = ring;
            CHECK.is("1: a new ring's corners", 0, () -> f.clear(r));
        }
        CHECK.fails("1: not laid", STATE, () -> f.square(0, 0));
        CHECK.is("1: no plan", NONE, () -> f.plan(0));
        CHECK.is("1: no wagon", NONE, () -> f.wagon(0));
        CHECK.is("1: no slants", 0, f::unslant);

        FieldRows g = Fields.laidBox(2, 1, 0);
        g.rows(1, 0, 400);
        g.best();
        g.bears(0, 0, 600);
        g.yields(0, 0, 600);
        g.yields(1, 0, 400);
        CHECK.is("1: a run in capacity 1000", 2, g::run);
        CHECK.same("1: weight 0 crushes nothing", "2 2 1000 1000 0 0 0 1000", Fields.looksOf(g));
        g.yields(1, 0, 401);
        CHECK.is("1: a run over capacity 1000, unload 0", 2, g::run);
        CHECK.same("1: one wagon", "2 2 1001 401 1 600 0 600", Fields.looksOf(g));

        FieldRows h = Fields.laidBox(40, 30, 0);
        h.rows(1, 0, 400);
        h.best();
        h.reaper(1, 1000000, 0);
        h.run();
        CHECK.is("1: no square yields at first", 0, () -> h.look(2));
        CHECK.is("1: all squares bear 1000000 at first", 0, () -> h.look(6));
        h.yields(39, 29, 1);
        h.run();
        CHECK.is("1: and no more", 1, () -> h.look(6));
    }

    private static void corner() {
        FieldRows f = new FieldRows();
        CHECK.is("2: the first corner", 1, () -> f.corner(0, 40, 30));
        CHECK.is("2: the same again", 2, () -> f.corner(0, 40, 30));
        CHECK.is("2: another ring has its own", 1, () -> f.corner(3, 0, 0));
        CHECK.fails("2: ring 4", INDEX, () -> f.corner(4, 0, 0));
        CHECK.fails("2: ring -1", INDEX, () -> f.corner(-1, 0, 0));
        CHECK.fails("2: the ring is told ahead of the corner", INDEX, () -> f.corner(4, -1, -1));
        CHECK.fails("2: x -1", ARGUMENT, () -> f.corner(0, -1, 0));
        CHECK.fails("2: x 41", ARGUMENT, () -> f.corner(0, 41, 0));
        CHECK.fails("2: y -1", ARGUMENT, () -> f.corner(0, 0, -1));
        CHECK.fails("2: y 31", ARGUMENT, () -> f.corner(0, 0, 31));
        CHECK.fails("2: least", INDEX, () -> f.corner(LEAST, LEAST, LEAST));
        CHECK.fails("2: most", ARGUMENT, () -> f.corner(0, MOST, MOST));
        for (int k = 3; k <= 12; k++) {
            int due = k;
            CHECK.is("2: corner " + k, due, () -> f.corner(0, 1, 1));
        }
        CHECK.fails("2: a thirteenth", UNSUPPORTED, () -> f.corner(0, 1, 1));
        CHECK.fails("2: a thirteenth that is none", ARGUMENT, () -> f.corner(0, 1, 31));
        f.lay(0);
        CHECK.fails("2: a thirteenth leaves all", UNSUPPORTED, () -> f.corner(0, 1, 1));
        CHECK.fails("2: a wrong one leaves all", ARGUMENT, () -> f.corner(1, 1, 31));
        CHECK.is("2: still laid", 1, () -> f.count(0));
        CHECK.is("2: twelve are kept", 12, () -> f.clear(0));
        CHECK.is("2: again the first", 1, () -> f.corner(0, 0, 0));
    }

    private static void clear() {
        FieldRows f = Fields.laidBox(6, 5, 1);
        CHECK.fails("3: ring 4", INDEX, () -> f.clear(4));
        CHECK.fails("3: ring -1", INDEX, () -> f.clear(-1));
        CHECK.is("3: a wrong one leaves all", 1, () -> f.count(0));
        CHECK.is("3: an empty ring", 0, () -> f.clear(2));
        CHECK.is("3: takes what was laid, too", 0, () -> f.count(0));
        CHECK.is("3: the field", 4, () -> f.clear(0));
        CHECK.is("3: once", 0, () -> f.clear(0));
        CHECK.is("3: nothing is field then", 0, () -> f.lay(0));
    }

    private static void area() {
        FieldRows f = new FieldRows();
        CHECK.is("4: no corner", 0, () -> f.area(0));
        f.corner(0, 3, 3);
        CHECK.is("4: one corner", 0, () -> f.area(0));
        f.corner(0, 0, 9);
        CHECK.is("4: two corners", 0, () -> f.area(0));
        f.corner(0, 10, 9);
        CHECK.is("4: a triangle", 60, () -> f.area(0));
        Fields.box(f, 1, 0, 0, 40, 30);
        CHECK.is("4: the whole land", 2400, () -> f.area(1));
        f.corner(2, 0, 0);
        f.corner(2, 0, 30);
        f.corner(2, 40, 30);
        f.corner(2, 40, 0);
        CHECK.is("4: the other way round", 2400, () -> f.area(2));
        f.corner(3, 0, 0);
        f.corner(3, 4, 4);
        f.corner(3, 4, 0);
        f.corner(3, 0, 4);
        CHECK.is("4: two halves against each other", 0, () -> f.area(3));
        FieldRows thrice = new FieldRows();
        for (int k = 0; k < 3; k++) {
            Fields.box(thrice, 1, 0, 0, 40, 30);
        }
        CHECK.is("4: thrice around the land, as by its sides", 7200, () -> thrice.area(1));
        CHECK.fails("4: ring 4", INDEX, () -> f.area(4));
        CHECK.fails("4: ring -1", INDEX, () -> f.area(-1));
        f.lay(1);
        f.area(0);
        CHECK.is("4: leaves all", 1, () -> f.count(0));
    }

    private static void layByTheRule() {
        CHECK.is("5: nothing", 0, () -> new FieldRows().lay(0));
        FieldRows line = new FieldRows();
        line.corner(0, 0, 0);
        line.corner(0, 40, 30);
        CHECK.is("5: two corners hold nothing", 0, () -> line.lay(0));
        FieldRows under = Fields.bareTriangle();
        CHECK.is("5: middles on the side to the right are not in", 6, () -> under.lay(0));
        FieldRows over = new FieldRows();
        over.corner(0, 4, 4);
        over.corner(0, 4, 0);
        over.corner(0, 0, 4);
        CHECK.is("5: middles on the side to the left are", 10, () -> over.lay(0));
        FieldRows star = new FieldRows();
        star.corner(0, 0, 0);
        star.corner(0, 8, 0);
        star.corner(0, 8, 6);
        star.corner(0, 2, 6);
        star.corner(0, 2, 2);
        star.corner(0, 6, 2);
        star.corner(0, 6, 4);
        star.corner(0, 0, 4);
        CHECK.is("5: an even number of sides is out", 8 * 4 + 6 * 2 - 4 * 2, () -> star.lay(0));
        CHECK.is("5: what is walked round twice", 0, () -> star.square(3, 3));
        FieldRows holes = new FieldRows();
        Fields.box(holes, 0, 0, 0, 10, 10);
        Fields.box(holes, 1, 1, 1, 3, 3);
        Fields.box(holes, 2, 2, 2, 4, 4);
        Fields.box(holes, 3, 20, 20, 30, 30);
        CHECK.is("5: islands, one over another, one outside", 100 - 7, () -> holes.lay(0));
        CHECK.is("5: in both islands", 0, () -> holes.square(2, 2));
        CHECK.is("5: an island alone is no field", 0, () -> holes.square(25, 25));
        CHECK.is("5: the whole land", 1200, () -> Fields.laidBox(40, 30, 0).lay(0));
    }

    private static void layWithHeadland() {
        FieldRows f = Fields.laidBox(40, 30, 0);
        for (int h = 0; h <= 5; h++) {
            int head = h;
            CHECK.is("5: field", 1200, () -> f.lay(head));
            CHECK.is("5: beyond the land counts, H " + h, (40 - 2 * head) * (30 - 2 * head), () -> f.count(3));
            CHECK.is("5: H", head, () -> f.count(7));
        }
        CHECK.fails("5: H 6", ARGUMENT, () -> f.lay(6));
        CHECK.fails("5: H -1", ARGUMENT, () -> f.lay(-1));
        CHECK.is("5: a wrong H leaves all", 5, () -> f.count(7));
        FieldRows g = new FieldRows();
        Fields.box(g, 0, 0, 0, 40, 30);
        Fields.box(g, 1, 20, 15, 21, 16);
        g.lay(2);
        CHECK.is("5: head around an island", 40 * 30 - 36 * 26 + 24, () -> g.count(2));
        CHECK.is("5: by king's steps, slantwise", 1, () -> g.square(18, 13));
        CHECK.is("5: three away", 2, () -> g.square(17, 15));
        CHECK.is("5: the island itself", 0, () -> g.square(20, 15));
    }

    private static void square() {
        FieldRows f = new FieldRows();
        CHECK.fails("6: not laid", STATE, () -> f.square(0, 0));
        CHECK.fails("6: not laid, and none such", STATE, () -> f.square(-1, 0));
        Fields.box(f, 0, 0, 0, 6, 5);
        f.lay(1);
        CHECK.is("6: head", 1, () -> f.square(0, 0));
        CHECK.is("6: inner", 2, () -> f.square(4, 3));
        CHECK.is("6: head at the far corner", 1, () -> f.square(5, 4));
        CHECK.is("6: out", 0, () -> f.square(6, 4));
        CHECK.is("6: the last one", 0, () -> f.square(39, 29));
        CHECK.is("6: x 40", NONE, () -> f.square(40, 0));
        CHECK.is("6: x -1", NONE, () -> f.square(-1, 0));
        CHECK.is("6: y 30", NONE, () -> f.square(0, 30));
        CHECK.is("6: y -1", NONE, () -> f.square(0, -1));
        CHECK.is("6: least, most", NONE, () -> f.square(LEAST, MOST));
    }

    private static void rows() {
        FieldRows f = new FieldRows();
        CHECK.fails("7: not laid", STATE, () -> f.rows(1, 0, 1));
        CHECK.fails("7: not laid, and wrong", STATE, () -> f.rows(0, 0, 0));
        Fields.box(f, 0, 0, 0, 6, 5);
        f.lay(1);
        CHECK.is("7: along x", 3, () -> f.rows(1, 0, 2));
        CHECK.is("7: along y", 4, () -> f.rows(0, 1, 2));
        CHECK.is("7: along x backwards", 3, () -> f.rows(-1, 0, 2));
        CHECK.is("7: slantwise", 6, () -> f.rows(1, 1, 1));
        CHECK.is("7: wide", 1, () -> f.rows(1, 0, 400));
        CHECK.is("7: wide, around zero", 2, () -> f.rows(1, 1, 400));
        CHECK.is("7: (9, -9)", 6, () -> f.rows(9, -9, 1));
        CHECK.fails("7: no slant", ARGUMENT, () -> f.rows(0, 0, 1));
        CHECK.fails("7: a 10", ARGUMENT, () -> f.rows(10, 0, 1));
        CHECK.fails("7: a -10", ARGUMENT, () -> f.rows(-10, 0, 1));
        CHECK.fails("7: b 10", ARGUMENT, () -> f.rows(0, 10, 1));
        CHECK.fails("7: b -10", ARGUMENT, () -> f.rows(0, -10, 1));
        CHECK.fails("7: least", ARGUMENT, () -> f.rows(LEAST, LEAST, 1));
        CHECK.fails("7: width 0", ARGUMENT, () -> f.rows(1, 0, 0));
        CHECK.fails("7: width 401", ARGUMENT, () -> f.rows(1, 0, 401));
        CHECK.fails("7: width least", ARGUMENT, () -> f.rows(1, 0, LEAST));
        CHECK.is("7: a wrong one leaves all", 6, () -> f.count(4));
        Fields.box(f, 1, 2, 0, 4, 5);
        f.lay(0);
        CHECK.is("7: an island cuts a strip", 10, () -> f.rows(1, 0, 2));
        f.lay(5);
        CHECK.is("7: nothing is inner", 0, () -> f.rows(1, 0, 2));
        CHECK.is("7: no rows are rows, too", 0, f::best);
    }

    private static void rowsUpToSixty() {
        FieldRows f = Fields.laidBox(31, 30, 0);
        CHECK.is("7: sixty", 60, () -> f.rows(1, 1, 1));
        CHECK.is("7: their best", 59 * 5, f::best);
        FieldRows g = Fields.laidBox(32, 30, 0);
        g.rows(1, 0, 2);
        g.best();
        CHECK.is("7: sixty-one are too many", NONE, () -> g.rows(1, 1, 1));
        CHECK.is("7: and no rows then", 0, () -> g.count(4));
        CHECK.is("7: and no plan", 0, () -> g.count(5));
        CHECK.fails("7: none to ask for", STATE, () -> g.row(0, 0));
        CHECK.fails("7: none to plan", STATE, g::best);
        CHECK.is("7: still laid", 1, () -> g.count(0));
    }

    private static void row() {
        FieldRows f = Fields.laidBox(6, 5, 1);
        CHECK.fails("8: no rows", STATE, () -> f.row(0, 0));
        f.rows(1, 0, 2);
        int[][] due = {{1, 4, 1, 1, 4, 1}, {2, 4, 1, 2, 4, 2}, {3, 4, 1, 3, 4, 3}};
        checkRows("8: along x", f, due);
        f.rows(-1, 0, 2);
        checkRows("8: backwards", f, new int[][] {{-4, 4, 4, 3, 1, 3}, {-3, 4, 4, 2, 1, 2}, {-2, 4, 4, 1, 1, 1}});
        f.rows(1, 0, 400);
        checkRows("8: ends of the same along have the least y", f, new int[][] {{0, 12, 1, 1, 4, 1}});
        f.rows(0, 1, 400);
        checkRows("8: ends of the same along and y have the least x", f, new int[][] {{-1, 12, 1, 1, 1, 3}});
        f.rows(1, 0, 2);
        CHECK.fails("8: row 3", NO_SUCH, () -> f.row(3, 0));
        CHECK.fails("8: row -1", NO_SUCH, () -> f.row(-1, 0));
        CHECK.fails("8: what 6", NO_SUCH, () -> f.row(0, 6));
        CHECK.fails("8: what -1", NO_SUCH, () -> f.row(0, -1));
        CHECK.fails("8: least, most", NO_SUCH, () -> f.row(LEAST, MOST));
        FieldRows cut = new FieldRows();
        Fields.box(cut, 0, 0, 0, 7, 1);
        Fields.box(cut, 1, 2, 0, 3, 1);
        cut.lay(0);
        cut.rows(1, 0, 2);
        checkRows("8: in one strip by along", cut, new int[][] {{0, 2, 0, 0, 1, 0}, {0, 4, 3, 0, 6, 0}});
        cut.rows(-1, 0, 2);
        checkRows("8: in one strip by along, backwards", cut, new int[][] {{-1, 4, 6, 0, 3, 0}, {-1, 2, 1, 0, 0, 0}});
        cut.rows(0, 1, 400);
        checkRows("8: in one strip by x at last", cut, new int[][] {{-1, 2, 0, 0, 0, 0}, {-1, 4, 3, 0, 3, 0}});
    }

    private static void checkRows(String what, FieldRows f, int[][] due) {
        CHECK.is(what, due.length, () -> f.count(4));
        for (int r = 0; r < due.length; r++) {
            for (int w = 0; w < 6; w++) {
                int row = r;
                int part = w;
                CHECK.is(what + ": row(" + r + ", " + w + ")", due[r][w], () -> f.row(row, part));
            }
        }
    }

    private static void rowOf() {
        FieldRows f = Fields.laidBox(6, 5, 1);
        CHECK.fails("9: no rows", STATE, () -> f.rowOf(1, 1));
        CHECK.fails("9: no rows, and none such", STATE, () -> f.rowOf(-1, 1));
        f.rows(1, 0, 2);
        CHECK.is("9: row 0", 0, () -> f.rowOf(4, 1));
        CHECK.is("9: row 2", 2, () -> f.rowOf(1, 3));
        CHECK.is("9: head", NONE, () -> f.rowOf(0, 1));
        CHECK.is("9: out", NONE, () -> f.rowOf(20, 1));
        CHECK.is("9: x 40", NONE, () -> f.rowOf(40, 1));
        CHECK.is("9: y -1", NONE, () -> f.rowOf(1, -1));
        CHECK.is("9: least", NONE, () -> f.rowOf(LEAST, LEAST));
        FieldRows slantwise = new FieldRows();
        Fields.box(slantwise, 0, 0, 0, 2, 2);
        Fields.box(slantwise, 1, 1, 0, 2, 1);
        Fields.box(slantwise, 2, 0, 1, 1, 2);
        slantwise.lay(0);
        CHECK.is("9: squares hang together slantwise", 1, () -> slantwise.rows(1, 0, 400));
        CHECK.is("9: both are of it", 0, () -> slantwise.rowOf(1, 1));
    }

    private static void way() {
        FieldRows f = new FieldRows();
        CHECK.fails("10: not laid", STATE, () -> f.way(0, 0, 0, 0));
        CHECK.fails("10: not laid, and none such", STATE, () -> f.way(-1, 0, 0, 0));
        Fields.box(f, 0, 0, 0, 7, 7);
        f.lay(1);
        CHECK.is("10: to itself", 0, () -> f.way(3, 3, 3, 3));
        CHECK.is("10: straight", 30, () -> f.way(0, 0, 6, 0));
        CHECK.is("10: there and back", 30, () -> f.way(6, 0, 0, 0));
        CHECK.is("10: around what is inner", 25 + 25 + 7, () -> f.way(0, 0, 6, 6));
        CHECK.is("10: inner neighbours", 7, () -> f.way(3, 3, 4, 4));
        CHECK.is("10: inner, with inner all around", NONE, () -> f.way(3, 3, 0, 0));
        CHECK.is("10: to inner, with inner all around", NONE, () -> f.way(0, 0, 3, 3));
        CHECK.is("10: inner to inner through the head", 7 + 5 * 2 + 7, () -> f.way(1, 1, 5, 1));
        CHECK.is("10: two apart, slantwise out and in", 14, () -> f.way(1, 2, 1, 4));
        CHECK.is("10: from what is out", NONE, () -> f.way(7, 0, 0, 0));
        CHECK.is("10: to what is out", NONE, () -> f.way(0, 0, 7, 0));
        CHECK.is("10: what is out to itself", NONE, () -> f.way(7, 0, 7, 0));
        CHECK.is("10: from none such", NONE, () -> f.way(40, 0, 0, 0));
        CHECK.is("10: to none such", NONE, () -> f.way(0, 0, 0, 30));
        CHECK.is("10: least, most", NONE, () -> f.way(LEAST, MOST, MOST, LEAST));
        FieldRows whole = Fields.laidBox(40, 30, 1);
        CHECK.is("10: not over the land's edge", 4 * 5 + 7 + 37 * 5 + 7 + 5 * 5, () -> whole.way(39, 5, 0, 6));
        FieldRows g = new FieldRows();
        Fields.box(g, 0, 0, 0, 4, 4);
        Fields.box(g, 1, 2, 0, 4, 2);
        Fields.box(g, 2, 0, 2, 2, 4);
        g.lay(1);
        CHECK.is("10: slantwise between what is out", 21, () -> g.way(0, 0, 3, 3));
        FieldRows apart = new FieldRows();
        Fields.box(apart, 0, 0, 0, 9, 3);
        Fields.box(apart, 1, 4, 0, 5, 3);
        apart.lay(1);
        CHECK.is("10: behind an island", NONE, () -> apart.way(0, 0, 8, 0));
    }

    private static void turn() {
        FieldRows f = Fields.laidBox(6, 5, 1);
        CHECK.fails("11: no rows", STATE, () -> f.turn(0, 2));
        f.rows(1, 0, 2);
        CHECK.is("11: to the neighbour", 5, () -> f.turn(0, 2));
        CHECK.is("11: to its other end", 31, () -> f.turn(0, 3));
        CHECK.is("11: back", 31, () -> f.turn(3, 0));
        CHECK.is("11: over one", 14, () -> f.turn(1, 5));
        CHECK.fails("11: both of one", NO_SUCH, () -> f.turn(0, 1));
        CHECK.fails("11: the same", NO_SUCH, () -> f.turn(5, 5));
        CHECK.fails("11: from 6", NO_SUCH, () -> f.turn(6, 0));
        CHECK.fails("11: to 6", NO_SUCH, () -> f.turn(0, 6));
        CHECK.fails("11: from -1", NO_SUCH, () -> f.turn(-1, 2));
        CHECK.fails("11: to -1", NO_SUCH, () -> f.turn(2, -1));
        CHECK.fails("11: least, most", NO_SUCH, () -> f.turn(LEAST, MOST));
        FieldRows bare = Fields.bareTriangle();
        CHECK.is("11: none without headland", NONE, () -> bare.turn(0, 4));
        f.rows(0, 1, 2);
        CHECK.is("11: of the new rows", 14, () -> f.turn(0, 4));
    }

    private static void bestOfFew() {
        FieldRows f = Fields.laidBox(6, 5, 1);
        CHECK.fails("12: no rows", STATE, f::best);
        f.rows(1, 0, 400);
        CHECK.is("12: one row", 0, f::best);
        CHECK.same("12: its first end first", "0", Fields.planOf(f));
        f.rows(1, 0, 2);
        CHECK.is("12: three rows", 10, f::best);
        CHECK.same("12: the first of the least", "0 3 4", Fields.planOf(f));
        FieldRows apart = new FieldRows();
        Fields.box(apart, 0, 0, 0, 9, 3);
        Fields.box(apart, 1, 4, 0, 5, 3);
        apart.lay(1);
        apart.rows(1, 0, 400);
        CHECK.is("12: two rows, no way between", NONE, apart::best);
        CHECK.is("12: and no plan", 0, () -> apart.count(5));
        CHECK.is("12: but rows", 2, () -> apart.count(4));
        FieldRows narrow = narrowField(8, 4);
        CHECK.is("12: the nearest from 0 on would have 27", 25, narrow::best);
        CHECK.same("12: all orders and ends are tried", "1 2 5", Fields.planOf(narrow));
    }

    /** Rows of two squares along x, cut in two heaps by an island of one square in their left one. */
    private static FieldRows narrowField(int high, int islandY) {
        FieldRows f = new FieldRows();
        Fields.box(f, 0, 0, 0, 4, high);
        Fields.box(f, 1, 1, islandY, 2, islandY + 1);
        f.lay(1);
        f.rows(1, 0, 2);
        return f;
    }

    private static void bestOfMany() {
        FieldRows nine = Fields.laidBox(6, 11, 1);
        nine.rows(1, 0, 2);
        CHECK.is("12: nine rows", 40, nine::best);
        CHECK.same("12: there and back", "0 3 4 7 8 11 12 15 16", Fields.planOf(nine));
        FieldRows ten = Fields.laidBox(6, 12, 1);
        ten.rows(1, 0, 2);
        CHECK.is("12: ten rows", 45, ten::best);
        CHECK.same("12: there and back, too", "0 3 4 7 8 11 12 15 16 19", Fields.planOf(ten));
        FieldRows narrowNine = narrowField(14, 8);
        CHECK.is("12: of nine rows all orders are tried", 55, narrowNine::best);
        CHECK.same("12: the first of those", "1 2 5 6 9 10 13 14 17", Fields.planOf(narrowNine));
        FieldRows narrow = narrowField(16, 10);
        CHECK.is("12: of eleven rows not all orders are tried (65)", 67, narrow::best);
        CHECK.same("12: but the nearest", "0 3 4 7 8 11 12 15 17 18 21", Fields.planOf(narrow));
        FieldRows island = new FieldRows();
        Fields.box(island, 0, 0, 0, 13, 11);
        Fields.box(island, 1, 3, 3, 6, 4);
        island.lay(1);
        CHECK.is("12: twelve rows", 12, () -> island.rows(1, 0, 2));
        CHECK.is("12: the nearest, 94, is turned round to", 55, island::best);
        CHECK.same("12: place by place", "12 9 4 1 3 7 11 14 17 18 21 22", Fields.planOf(island));
        FieldRows one = new FieldRows();
        Fields.box(one, 0, 0, 0, 7, 12);
        Fields.box(one, 1, 3, 3, 5, 5);
        one.lay(1);
        one.rows(1, 0, 2);
        CHECK.is("12: one place alone is turned round", 45, one::best);
        CHECK.same("12: the first", "1 2 4 6 8 10 13 14 17 18", Fields.planOf(one));
        FieldRows high = new FieldRows();
        Fields.box(high, 0, 0, 0, 14, 9);
        Fields.box(high, 1, 8, 4, 11, 5);
        high.lay(1);
        high.rows(1, 0, 2);
        CHECK.is("12: ten rows, 84 turned round to", 74, high::best);
        CHECK.same("12: the first stretch that lessens", "0 3 4 9 12 7 11 15 17 18", Fields.planOf(high));
        FieldRows apart = new FieldRows();
        Fields.box(apart, 0, 0, 0, 9, 14);
        Fields.box(apart, 1, 4, 0, 5, 14);
        apart.lay(1);
        CHECK.is("12: twenty-four rows, two by two", 24, () -> apart.rows(1, 0, 2));
        CHECK.is("12: no turn to any", NONE, apart::best);
        CHECK.is("12: no plan", 0, () -> apart.count(5));
    }

    private static void bound() {
        FieldRows f = Fields.laidBox(6, 5, 1);
        CHECK.fails("13: no rows", STATE, f::bound);
        f.rows(1, 0, 400);
        CHECK.is("13: one row", 0, f::bound);
        f.rows(1, 0, 2);
        CHECK.is("13: three rows", 10, f::bound);
        CHECK.is("13: makes no plan", 0, () -> f.count(5));
        f.lay(5);
        f.rows(1, 0, 2);
        CHECK.is("13: no rows at all", 0, f::bound);
        FieldRows apart = new FieldRows();
        Fields.box(apart, 0, 0, 0, 9, 4);
        Fields.box(apart, 1, 4, 0, 5, 4);
        Fields.box(apart, 2, 0, 3, 4, 4);
        apart.lay(1);
        CHECK.is("13: one row here, two there", 3, () -> apart.rows(1, 0, 2));
        CHECK.is("13: one row has none", NONE, apart::bound);
        FieldRows narrow = narrowField(8, 4);
        CHECK.is("13: 5, 5 and 20 less the greatest", 10, narrow::bound);
        FieldRows many = Fields.laidBox(31, 30, 0);
        many.rows(1, 1, 1);
        CHECK.is("13: sixty rows", 59 * 5, many::bound);
        many.rows(1, 0, 2);
        CHECK.is("13: thirty rows after sixty", 29 * 5, many::bound);
        many.rows(1, 0, 60);
        CHECK.is("13: one row after thirty", 0, many::bound);
        FieldRows stalk = new FieldRows();
        Fields.ring(stalk, 0, 0, 0, 3, 0, 3, 1, 1, 1, 1, 2, 0, 2);
        stalk.lay(0);
        stalk.rows(1, 0, 2);
        CHECK.is("13: to END 0 of row 0 alone", 5, stalk::bound);
        stalk.rows(-1, 0, 2);
        CHECK.is("13: to END 1 of the last row alone", 5, stalk::bound);
        narrow.best();
        narrow.bound();
        CHECK.is("13: leaves the plan", 1, () -> narrow.count(5));
    }

    private static void plan() {
        FieldRows f = Fields.laidBox(6, 5, 1);
        CHECK.is("14: no rows", NONE, () -> f.plan(0));
        f.rows(1, 0, 2);
        CHECK.is("14: no plan", NONE, () -> f.plan(0));
        f.best();
        CHECK.is("14: the first", 0, () -> f.plan(0));
        CHECK.is("14: the last", 4, () -> f.plan(2));
        CHECK.is("14: beyond", NONE, () -> f.plan(3));
        CHECK.is("14: -1", NONE, () -> f.plan(-1));
        CHECK.is("14: least", NONE, () -> f.plan(LEAST));
        CHECK.is("14: most", NONE, () -> f.plan(MOST));
    }

    private static void swing() {
        FieldRows f = Fields.threeRows();
        CHECK.fails("15: no plan", STATE, () -> f.swing(0, 0));
        CHECK.fails("15: no plan, and wrong", STATE, () -> f.swing(-1, 0));
        f.best();
        CHECK.fails("15: i -1", ARGUMENT, () -> f.swing(-1, 0));
        CHECK.fails("15: j ahead of i", ARGUMENT, () -> f.swing(1, 0));
        CHECK.fails("15: j beyond", ARGUMENT, () -> f.swing(0, 3));
        CHECK.fails("15: least, most", ARGUMENT, () -> f.swing(LEAST, MOST));
        CHECK.fails("15: most, least", ARGUMENT, () -> f.swing(MOST, LEAST));
        CHECK.same("15: wrong ones leave all", "0 3 4", Fields.planOf(f));
        CHECK.is("15: one place", 36, () -> f.swing(0, 0));
        CHECK.same("15: entered at its other end", "1 3 4", Fields.planOf(f));
        CHECK.is("15: all places", 36, () -> f.swing(0, 2));
        CHECK.same("15: the opposite order", "5 2 0", Fields.planOf(f));
        CHECK.is("15: back", 36, () -> f.swing(0, 2));
        CHECK.is("15: two places", 67, () -> f.swing(0, 1));
        CHECK.same("15: the first two", "2 0 4", Fields.planOf(f));
        FieldRows bare = Fields.bareTriangle();
        bare.best();
        CHECK.is("15: no sum", NONE, () -> bare.swing(1, 2));
        CHECK.same("15: it stays turned round", "0 5 3", Fields.planOf(bare));
        CHECK.is("15: it is a plan", 1, () -> bare.count(5));
        CHECK.fails("15: that can't be run", STATE, bare::run);
        CHECK.is("15: and back", 12, () -> bare.swing(1, 2));
        CHECK.is("15: that can", 18, bare::run);
        f.lay(5);
        f.rows(1, 0, 1);
        f.best();
        CHECK.fails("15: a plan of no places", ARGUMENT, () -> f.swing(0, 0));
    }

    private static void slant() {
        FieldRows f = new FieldRows();
        CHECK.is("16: the first", 1, () -> f.slant(9, -9));
        CHECK.is("16: the same again", 2, () -> f.slant(9, -9));
        CHECK.is("16: no slant", NONE, () -> f.slant(0, 0));
        CHECK.is("16: a 10", NONE, () -> f.slant(10, 0));
        CHECK.is("16: a -10", NONE, () -> f.slant(-10, 0));
        CHECK.is("16: b 10", NONE, () -> f.slant(0, 10));
        CHECK.is("16: b -10", NONE, () -> f.slant(0, -10));
        CHECK.is("16: least", NONE, () -> f.slant(LEAST, LEAST));
        CHECK.is("16: those did not come", 2, () -> f.count(6));
        CHECK.is("16: the third", 3, () -> f.slant(1, 0));
        CHECK.is("16: the fourth", 4, () -> f.slant(0, 1));
        CHECK.is("16: the fifth", 5, () -> f.slant(-1, 0));
        CHECK.is("16: a sixth", NONE, () -> f.slant(0, -1));
        CHECK.is("16: five are told", 5, () -> f.count(6));
    }

    private static void unslant() {
        FieldRows f = Fields.laidBox(6, 5, 1);
        f.slant(1, 0);
        f.slant(0, 1);
        CHECK.is("17: two were", 2, f::unslant);
        CHECK.is("17: none are", 0, () -> f.count(6));
        CHECK.is("17: none were", 0, f::unslant);
        CHECK.is("17: none to choose", NONE, () -> f.choose(2));
        CHECK.is("17: the first again", 1, () -> f.slant(1, 0));
    }

    private static void choose() {
        FieldRows f = new FieldRows();
        CHECK.fails("18: not laid", STATE, () -> f.choose(2));
        CHECK.fails("18: not laid, and wrong", STATE, () -> f.choose(0));
        Fields.box(f, 0, 0, 0, 6, 5);
        f.lay(1);
        f.slant(0, 1);
        f.slant(1, 0);
        f.slant(-1, 0);
        f.slant(1, 1);
        f.rows(0, 1, 2);
        f.best();
        CHECK.fails("18: width 0", ARGUMENT, () -> f.choose(0));
        CHECK.fails("18: width 401", ARGUMENT, () -> f.choose(401));
        CHECK.is("18: a wrong one leaves rows", 4, () -> f.count(4));
        CHECK.is("18: and plan", 1, () -> f.count(5));
        CHECK.is("18: the least, of several the first", 1, () -> f.choose(2));
        CHECK.is("18: its rows", 3, () -> f.count(4));
        CHECK.is("18: of its slant", 4, () -> f.row(0, 4));
        CHECK.same("18: its plan", "0 3 4", Fields.planOf(f));
        CHECK.is("18: that can be run", 22, f::run);
        CHECK.is("18: slants stay", 4, () -> f.count(6));
        CHECK.is("18: all in one row", 0, () -> f.choose(400));
        CHECK.is("18: that row", 1, () -> f.count(4));
        f.unslant();
        CHECK.is("18: none told", NONE, () -> f.choose(2));
        CHECK.is("18: no rows then", 0, () -> f.count(4));
        CHECK.is("18: no plan then", 0, () -> f.count(5));
        CHECK.fails("18: none to ask for", STATE, f::best);
        FieldRows big = Fields.laidBox(32, 30, 0);
        big.slant(1, 1);
        CHECK.is("18: more than sixty rows", NONE, () -> big.choose(1));
        big.slant(1, 0);
        CHECK.is("18: are left aside", 1, () -> big.choose(1));
        CHECK.is("18: of thirty rows", 30, () -> big.count(4));
        FieldRows apart = new FieldRows();
        Fields.box(apart, 0, 0, 0, 9, 3);
        Fields.box(apart, 1, 4, 0, 5, 3);
        apart.lay(1);
        apart.slant(1, 0);
        CHECK.is("18: no best", NONE, () -> apart.choose(400));
        CHECK.is("18: and no rows", 0, () -> apart.count(4));
        apart.lay(5);
        CHECK.is("18: nothing to do is the least", 0, () -> apart.choose(1));
        CHECK.is("18: with a plan", 1, () -> apart.count(5));
    }

    /** "(those with more than 60 ROWS, or no BEST, aside)", wherever among the slants they are told. */
    private static void chooseAside() {
        FieldRows big = Fields.laidBox(32, 30, 0);
        big.slant(1, 0);
        big.slant(1, 1);
        CHECK.is("18: more than sixty rows, told last", 0, () -> big.choose(1));
        CHECK.is("18: rows of the first", 30, () -> big.count(4));
        CHECK.is("18: plan of the first", 29 * 5, () -> big.run() - 960);
        FieldRows tee = new FieldRows();
        Fields.ring(tee, 0, 0, 0, 5, 0, 5, 1, 3, 1, 3, 2, 2, 2, 2, 1, 0, 1);
        CHECK.is("18: a tee", 6, () -> tee.lay(0));
        tee.slant(1, 0);
        CHECK.is("18: no best along x", NONE, () -> tee.choose(2));
        tee.slant(0, 1);
        CHECK.is("18: best along y, told last", 1, () -> tee.choose(2));
        CHECK.same("18: its plan", "0 2 4 6 8", Fields.planOf(tee));
        CHECK.is("18: its sum", 5 + 5 + 7 + 5, () -> tee.run() - 6);
        tee.unslant();
        tee.slant(0, 1);
        tee.slant(1, 0);
        CHECK.is("18: best along y, told first", 0, () -> tee.choose(2));
        CHECK.is("18: its rows are there", 5, () -> tee.count(4));
        CHECK.same("18: its plan is there", "0 2 4 6 8", Fields.planOf(tee));
        CHECK.is("18: its sum", 5 + 5 + 7 + 5, () -> tee.run() - 6);
    }

    /** "its ROWS and PLAN are there then", be the slant told first, in the middle or last. */
    private static void chooseBringsRowsAndPlan() {
        int[][] along = {{0, 1}, {0, -1}, {1, 1}, {1, -1}};
        for (int k = 0; k < 5; k++) {
            int place = k;
            FieldRows f = Fields.laidBox(9, 5, 1);
            f.rows(0, 1, 2);
            f.best();
            for (int j = 0; j < 5; j++) {
                int[] other = along[j < place ? j : Math.max(0, j - 1)];
                f.slant(j == place ? 1 : other[0], j == place ? 0 : other[1]);
            }
            CHECK.is("18: five slants, the best at " + place, place, () -> f.choose(2));
            FieldRows due = Fields.laidBox(9, 5, 1);
            due.rows(1, 0, 2);
            due.best();
            CHECK.same("18: the rows of its slant", Fields.rowsOf(due, 9, 5), Fields.rowsOf(f, 9, 5));
            CHECK.same("18: the plan of its slant", Fields.planOf(due), Fields.planOf(f));
            for (int to = 2; to < 6; to++) {
                int number = to;
                CHECK.is("18: the turns of its slant", due.turn(0, number), () -> f.turn(0, number));
            }
            CHECK.is("18: ticks 21 and 10", 31, f::run);
        }
    }

    private static void yields() {
        FieldRows f = new FieldRows();
        CHECK.passes("19: ahead of lay, least", () -> f.yields(39, 29, 0));
        CHECK.passes("19: most", () -> f.yields(0, 0, 1000));
        CHECK.failsOf("19: x 40", INDEX, () -> f.yields(40, 0, 1));
        CHECK.failsOf("19: x -1", INDEX, () -> f.yields(-1, 0, 1));
        CHECK.failsOf("19: y 30", INDEX, () -> f.yields(0, 30, 1));
        CHECK.failsOf("19: y -1", INDEX, () -> f.yields(0, -1, 1));
        CHECK.failsOf("19: the square is told ahead of the yield", INDEX, () -> f.yields(0, 30, -1));
        CHECK.failsOf("19: 1001", ARGUMENT, () -> f.yields(0, 0, 1001));
        CHECK.failsOf("19: -1", ARGUMENT, () -> f.yields(0, 0, -1));
        CHECK.failsOf("19: least", INDEX, () -> f.yields(LEAST, LEAST, LEAST));
        Fields.box(f, 0, 0, 0, 1, 1);
        f.lay(0);
        f.rows(1, 0, 1);
        f.best();
        f.run();
        CHECK.is("19: wrong ones leave it, lay too", 1000, () -> f.look(2));
        f.yields(0, 0, 3);
        f.run();
        CHECK.is("19: the latest counts", 3, () -> f.look(2));
    }

    private static void bears() {
        FieldRows f = Fields.laidBox(1, 1, 0);
        f.rows(1, 0, 1);
        f.best();
        f.yields(0, 0, 5);
        f.reaper(1000, 95, 0);
        CHECK.passes("20: just as much", () -> f.bears(0, 0, 100));
        f.run();
        CHECK.is("20: is not crushed", 0, () -> f.look(6));
        CHECK.passes("20: one less", () -> f.bears(0, 0, 99));
        f.run();
        CHECK.is("20: is", 1, () -> f.look(6));
        CHECK.passes("20: most", () -> f.bears(39, 29, 1000000));
        CHECK.passes("20: least", () -> f.bears(39, 29, 0));
        CHECK.failsOf("20: 1000001", ARGUMENT, () -> f.bears(0, 0, 1000001));
        CHECK.failsOf("20: -1", ARGUMENT, () -> f.bears(0, 0, -1));
        CHECK.failsOf("20: x 40", INDEX, () -> f.bears(40, 0, 1));
        CHECK.failsOf("20: x -1", INDEX, () -> f.bears(-1, 0, 1));
        CHECK.failsOf("20: y 30", INDEX, () -> f.bears(0, 30, 1));
        CHECK.failsOf("20: y -1", INDEX, () -> f.bears(0, -1, 1));
        CHECK.failsOf("20: the square is told ahead", INDEX, () -> f.bears(MOST, MOST, MOST));
        CHECK.is("20: no new run, no new look", 1, () -> f.look(6));
    }

    private static void reaper() {
        FieldRows f = Fields.laidBox(2, 1, 0);
        f.rows(1, 0, 2);
        f.best();
        f.yields(0, 0, 1);
        f.yields(1, 0, 1);
        CHECK.passes("21: least", () -> f.reaper(1, 0, 0));
        CHECK.passes("21: most", () -> f.reaper(100000, 1000000, 1000));
        CHECK.passes("21: one, with a weight", () -> f.reaper(1, 1000000, 1000));
        CHECK.failsOf("21: capacity 0", ARGUMENT, () -> f.reaper(0, 0, 0));
        CHECK.failsOf("21: capacity 100001", ARGUMENT, () -> f.reaper(100001, 0, 0));
        CHECK.failsOf("21: weight -1", ARGUMENT, () -> f.reaper(5, -1, 0));
        CHECK.failsOf("21: weight 1000001", ARGUMENT, () -> f.reaper(5, 1000001, 0));
        CHECK.failsOf("21: unload -1", ARGUMENT, () -> f.reaper(5, 0, -1));
        CHECK.failsOf("21: unload 1001", ARGUMENT, () -> f.reaper(5, 0, 1001));
        CHECK.failsOf("21: least of all", ARGUMENT, () -> f.reaper(LEAST, LEAST, LEAST));
        CHECK.is("21: wrong ones leave all", 1002, f::run);
        CHECK.same("21: one, with a weight", "1002 2 2 1 1 1 2 1", Fields.looksOf(f));
    }

    private static void runInOrder() {
        FieldRows f = Fields.laidBox(6, 5, 1);
        CHECK.fails("22: no rows", STATE, f::run);
        f.rows(1, 0, 400);
        CHECK.fails("22: no plan", STATE, f::run);
        f.best();
        f.reaper(1, 0, 3);
        for (int x = 1; x <= 4; x++) {
            for (int y = 1; y <= 3; y++) {
                f.yields(x, y, 1);
            }
        }
        CHECK.is("22: a wagon at each but the first", 12 + 11 * 3, f::run);
        CHECK.same("22: by along, then y", "81 121 42 82 122 43 83 123 44 84 124", Fields.wagonsOf(f));
        f.swing(0, 0);
        CHECK.is("22: from end 1", 45, f::run);
        CHECK.same("22: by falling along, then y", "84 44 123 83 43 122 82 42 121 81 41", Fields.wagonsOf(f));
        f.rows(0, 1, 400);
        f.best();
        f.run();
        CHECK.same("22: by along, then x", "42 43 44 81 82 83 84 121 122 123 124", Fields.wagonsOf(f));
        f.rows(1, 0, 2);
        f.best();
        CHECK.is("22: with turns", 12 + 33 + 10, f::run);
        CHECK.same("22: row by row", "42 43 44 84 83 82 81 121 122 123 124", Fields.wagonsOf(f));
    }

    private static void runWithWagons() {
        FieldRows f = Fields.laidBox(4, 1, 0);
        f.rows(1, 0, 2);
        f.best();
        f.reaper(10, 0, 2);
        f.yields(0, 0, 11);
        f.yields(1, 0, 0);
        f.yields(2, 0, 10);
        CHECK.is("22: a wagon to an empty bunker, too", 8, f::run);
        CHECK.same("22: more than capacity comes, too", "8 4 21 10 2 11 0 11", Fields.looksOf(f));
        CHECK.same("22: where they came", "0 1", Fields.wagonsOf(f));
        f.yields(0, 0, 4);
        f.yields(1, 0, 6);
        CHECK.is("22: just full is no wagon", 6, f::run);
        CHECK.same("22: then one", "6 4 20 10 1 10 0 10", Fields.looksOf(f));
        CHECK.same("22: there", "2", Fields.wagonsOf(f));
        f.yields(2, 0, 0);
        f.bears(3, 0, 9);
        CHECK.is("22: no wagon", 4, f::run);
        CHECK.same("22: the bunker's weight crushes, yield or not", "4 4 10 10 0 0 1 10", Fields.looksOf(f));
        f.lay(5);
        f.rows(1, 0, 1);
        f.best();
        CHECK.is("22: nothing to do", 0, f::run);
        CHECK.same("22: nothing done", "0 0 0 0 0 0 0 0", Fields.looksOf(f));
    }

    private static void look() {
        FieldRows f = Fields.threeRows();
        CHECK.same("23: ahead of any", "0 0 0 0 0 0 0 0", Fields.looksOf(f));
        f.best();
        f.yields(1, 1, 600);
        f.yields(2, 1, 500);
        f.yields(4, 3, 100);
        f.reaper(1000, 400, 7);
        f.bears(1, 1, 999);
        f.run();
        CHECK.same("23: all of a run", "29 12 1200 600 1 600 1 600", Fields.looksOf(f));
        CHECK.fails("23: what 8", NO_SUCH, () -> f.look(8));
        CHECK.fails("23: what -1", NO_SUCH, () -> f.look(-1));
        CHECK.fails("23: least", NO_SUCH, () -> f.look(LEAST));
        CHECK.fails("23: most", NO_SUCH, () -> f.look(MOST));
        f.clear(0);
        CHECK.fails("23: a run that throws", STATE, f::run);
        CHECK.same("23: the latest run stays", "29 12 1200 600 1 600 1 600", Fields.looksOf(f));
    }

    private static void wagon() {
        FieldRows f = Fields.threeRows();
        CHECK.is("24: ahead of any run", NONE, () -> f.wagon(0));
        f.best();
        f.yields(1, 1, 600);
        f.yields(4, 3, 600);
        f.run();
        CHECK.is("24: the first", 40 * 3 + 4, () -> f.wagon(0));
        CHECK.is("24: a second", NONE, () -> f.wagon(1));
        CHECK.is("24: -1", NONE, () -> f.wagon(-1));
        CHECK.is("24: least", NONE, () -> f.wagon(LEAST));
        CHECK.is("24: most", NONE, () -> f.wagon(MOST));
        f.clear(0);
        CHECK.is("24: of the latest run still", 124, () -> f.wagon(0));
        FieldRows all = Fields.laidBox(40, 30, 0);
        all.rows(1, 0, 400);
        all.best();
        all.yields(5, 5, 2);
        all.reaper(1, 0, 0);
        all.run();
        CHECK.is("24: two came", 2, () -> all.look(4));
        CHECK.is("24: to the yield", 205, () -> all.wagon(0));
        CHECK.is("24: and behind it, for BUNKER is above already", 245, () -> all.wagon(1));
    }

    private static void count() {
        FieldRows f = new FieldRows();
        CHECK.same("25: new", "0 0 0 0 0 0 0 0", Fields.countsOf(f));
        f.slant(1, 0);
        Fields.box(f, 0, 0, 0, 6, 5);
        f.lay(1);
        CHECK.same("25: laid", "1 30 18 12 0 0 1 1", Fields.countsOf(f));
        f.rows(1, 0, 2);
        CHECK.same("25: with rows", "1 30 18 12 3 0 1 1", Fields.countsOf(f));
        f.best();
        CHECK.same("25: with a plan", "1 30 18 12 3 1 1 1", Fields.countsOf(f));
        f.lay(2);
        CHECK.same("25: laid anew", "1 30 28 2 0 0 1 2", Fields.countsOf(f));
        f.corner(1, 0, 0);
        CHECK.same("25: not laid", "0 0 0 0 0 0 1 0", Fields.countsOf(f));
        CHECK.is("25: what 8", NONE, () -> f.count(8));
        CHECK.is("25: what -1", NONE, () -> f.count(-1));
        CHECK.is("25: least", NONE, () -> f.count(LEAST));
        CHECK.is("25: most", NONE, () -> f.count(MOST));
    }

    /** The paragraph on exceptions behind ==== 4. */
    private static void whatIsTakenAway() {
        FieldRows f = Fields.threeRows();
        f.best();
        CHECK.fails("a lay that throws", ARGUMENT, () -> f.lay(6));
        CHECK.fails("rows that throw", ARGUMENT, () -> f.rows(0, 0, 1));
        CHECK.same("leave all", "1 30 18 12 3 1 0 1", Fields.countsOf(f));
        f.rows(1, 0, 2);
        CHECK.same("rows take the plan", "1 30 18 12 3 0 0 1", Fields.countsOf(f));
        f.best();
        f.lay(1);
        CHECK.same("lay takes rows and plan", "1 30 18 12 0 0 0 1", Fields.countsOf(f));
        CHECK.fails("no rows after lay", STATE, () -> f.rowOf(1, 1));
        f.rows(1, 0, 2);
        f.best();
        f.corner(3, 0, 0);
        CHECK.same("corner takes all", "0 0 0 0 0 0 0 0", Fields.countsOf(f));
        CHECK.fails("no way", STATE, () -> f.way(0, 0, 0, 0));
        CHECK.fails("no rows", STATE, () -> f.rows(1, 0, 2));
        CHECK.fails("no turn", STATE, () -> f.turn(0, 2));
        CHECK.fails("no swing", STATE, () -> f.swing(0, 0));
        CHECK.is("no plan", NONE, () -> f.plan(0));
        f.lay(1);
        f.rows(1, 0, 2);
        f.best();
        f.clear(2);
        CHECK.same("clear takes all", "0 0 0 0 0 0 0 0", Fields.countsOf(f));
    }
}
