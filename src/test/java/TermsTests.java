/**
 * The boundaries that the Terms of the document name, sentence by sentence (each test bears the
 * sentence's number and words). What is due is worked out by hand from the words, but for the BEST of
 * the greater fields (nineRowsAndTen, noTurnToAny, stretchesFromTheFirstOn): those fields and their
 * answers were found by a search that made BEST a second time, and its misreadings beside it.
 */
public final class TermsTests {
    private static final int NONE = FieldRows.NONE;
    private static final Check CHECK = new Check("TermsTests");

    public static void main(String[] args) {
        landIs40By30();
        atMostTwelveCornersThatCloseThemselves();
        fewerThanThreeHoldNothing();
        anOddNumberOfSides();
        strictlyLess();
        exactly();
        fieldIsInNoneOfTheOthers();
        atMostHeadKingsSteps();
        headOfIslands();
        noHeadland();

        stripsAreRoundedDown();
        stripsAtTheirGreatest();
        rowsHangTogether();
        rowsAreNotHungOverTheEdge();
        numbersOfRows();
        endsOfRows();
        steps();
        overHeadAlone();
        waysRoundTheLand();
        turnsOfOneSquare();
        plansWithoutSum();

        nineRowsAndTen();
        firstByItsNumbers();
        noneOfAllPlans();
        noTurnToAny();
        stretchesFromTheFirstOn();
        boundOfFewAndOfNone();
        ticksOfAPlan();

        bunkerIsEmptyAtFirst();
        orderOfSquares();
        aboveCapacity();
        aboveWhatItBears();
        ticksOfARun();
        yieldsAndBearingsAtFirst();
        CHECK.end();
    }

    /** "THE LAND has 40 x 30 SQUARES, x 0 to 39, y 0 to 29; corners ... have x 0 to 40, y 0 to 30." */
    private static void landIs40By30() {
        FieldRows f = new FieldRows();
        CHECK.is("T1: corner (0, 0)", 1, () -> f.corner(0, 0, 0));
        CHECK.is("T1: corner (40, 0)", 2, () -> f.corner(0, 40, 0));
        CHECK.is("T1: corner (40, 30)", 3, () -> f.corner(0, 40, 30));
        CHECK.is("T1: corner (0, 30)", 4, () -> f.corner(0, 0, 30));
        CHECK.is("T1: 40 x 30", 1200, () -> f.lay(0));
        for (int k = 0; k < 30; k++) {
            int y = k;
            CHECK.is("T1: x -1", NONE, () -> f.square(-1, y));
            CHECK.is("T1: x 0", 2, () -> f.square(0, y));
            CHECK.is("T1: x 39", 2, () -> f.square(39, y));
            CHECK.is("T1: x 40", NONE, () -> f.square(40, y));
        }
        for (int k = 0; k < 40; k++) {
            int x = k;
            CHECK.is("T1: y -1", NONE, () -> f.square(x, -1));
            CHECK.is("T1: y 0", 2, () -> f.square(x, 0));
            CHECK.is("T1: y 29", 2, () -> f.square(x, 29));
            CHECK.is("T1: y 30", NONE, () -> f.square(x, 30));
        }
    }

    /** "each a row of at most 12 corners (none at first), that closes itself" */
    private static void atMostTwelveCornersThatCloseThemselves() {
        FieldRows f = new FieldRows();
        Fields.ring(f, 0, 3, 0, 6, 0, 6, 3, 9, 3, 9, 6, 6, 6, 6, 9, 3, 9, 3, 6, 0, 6, 0, 3);
        CHECK.is("T1: a twelfth", 12, () -> f.corner(0, 3, 3));
        CHECK.fails("T1: a thirteenth", UnsupportedOperationException.class, () -> f.corner(0, 0, 0));
        CHECK.is("T1: a cross of twelve corners", 45, () -> f.lay(0));
        CHECK.same("T1: the side back to the first is one, too", "...iii... ...iii... ...iii... iiiiiiiii iiiiiiiii"
                + " iiiiiiiii ...iii... ...iii... ...iii...", Fields.landOf(f, 9, 9));
        CHECK.is("T1: its area", 90, () -> f.area(0));
        FieldRows g = new FieldRows();
        Fields.ring(g, 0, 4, 0, 4, 4, 0, 4);
        CHECK.is("T1: a slanting side back to the first", 10, () -> g.lay(0));
        CHECK.same("T1: is one, too", "...i ..ii .iii iiii", Fields.landOf(g, 4, 4));
    }

    /** "one of fewer than three has nothing in it" */
    private static void fewerThanThreeHoldNothing() {
        FieldRows f = new FieldRows();
        CHECK.is("T1: no corner", 0, () -> f.lay(0));
        f.corner(0, 20, 15);
        CHECK.is("T1: one corner", 0, () -> f.lay(0));
        f.corner(0, 0, 30);
        CHECK.is("T1: two corners", 0, () -> f.lay(0));
        f.corner(0, 0, 15);
        CHECK.is("T1: three corners", 150, () -> f.lay(0));
        FieldRows g = Fields.newBox(4, 4);
        g.corner(1, 0, 0);
        CHECK.is("T1: an island of one corner", 16, () -> g.lay(0));
        g.corner(1, 0, 4);
        CHECK.is("T1: an island of two corners", 16, () -> g.lay(0));
        g.corner(1, 3, 4);
        CHECK.is("T1: an island of three", 10, () -> g.lay(0));
        CHECK.same("T1: takes its half", "iiii .iii ..ii ...i", Fields.landOf(g, 4, 4));
    }

    /** "if, of its sides ..., an odd number has" */
    private static void anOddNumberOfSides() {
        FieldRows line = new FieldRows();
        Fields.ring(line, 0, 0, 0, 20, 15, 40, 30);
        CHECK.is("T1: three corners in a line", 0, () -> line.lay(0));
        FieldRows spot = new FieldRows();
        Fields.ring(spot, 0, 7, 7, 7, 7, 7, 7);
        CHECK.is("T1: three times the same corner", 0, () -> spot.lay(0));
        FieldRows twice = new FieldRows();
        Fields.ring(twice, 0, 0, 0, 4, 0, 4, 4, 0, 0, 4, 0, 4, 4);
        CHECK.is("T1: twice around is even", 0, () -> twice.lay(0));
        CHECK.is("T1: though its sides tell twice the area", 32, () -> twice.area(0));
        FieldRows thrice = new FieldRows();
        Fields.ring(thrice, 0, 0, 0, 4, 0, 4, 4, 0, 0, 4, 0, 4, 4, 0, 0, 4, 0, 4, 4);
        CHECK.is("T1: thrice around is odd", 10, () -> thrice.lay(0));
        FieldRows bow = new FieldRows();
        Fields.ring(bow, 0, 0, 0, 4, 4, 4, 0, 0, 4);
        CHECK.is("T1: a bow", 8, () -> bow.lay(0));
        CHECK.same("T1: sides that cross", "...i i.ii i.ii ...i", Fields.landOf(bow, 4, 4));
        CHECK.is("T1: whose sides tell no area", 0, () -> bow.area(0));
        FieldRows squares = Fields.twoSquares(39, 29, 0, 0);
        CHECK.is("T1: there and back hold nothing", 2, () -> squares.lay(0));
        CHECK.is("T1: but the first square", 2, () -> squares.square(0, 0));
        CHECK.is("T1: and the last", 2, () -> squares.square(39, 29));
    }

    /** "the middle lies left of where the side's line has the middle's height (x strictly less ...)" */
    private static void strictlyLess() {
        FieldRows f = new FieldRows();
        Fields.ring(f, 0, 2, 0, 4, 2, 2, 4, 0, 2);
        f.lay(0);
        CHECK.same("T1: on a left side in, on a right side out", ".i.. iii. iii. .i..", Fields.landOf(f, 4, 4));
        FieldRows back = new FieldRows();
        Fields.ring(back, 0, 0, 2, 2, 4, 4, 2, 2, 0);
        back.lay(0);
        CHECK.same("T1: whichever way round", ".i.. iii. iii. .i..", Fields.landOf(back, 4, 4));
        FieldRows island = Fields.newBox(4, 4);
        Fields.ring(island, 1, 2, 0, 4, 2, 2, 4, 0, 2);
        island.lay(0);
        CHECK.same("T1: of an island, too", "i.ii ...i ...i i.ii", Fields.landOf(island, 4, 4));
    }

    /** "(... exactly)": on (0, 0) to (39, 29) lies just one middle; two others miss it by 1/39 of a square at most. */
    private static void exactly() {
        int[] left = {0, 0, 39, 29, 0, 29};
        int[] right = {39, 29, 0, 0, 39, 0};
        FieldRows f = new FieldRows();
        Fields.ring(f, 0, left);
        CHECK.is("T1: left of the line", 565, () -> f.lay(0));
        CHECK.is("T1: on it is not", 0, () -> f.square(19, 14));
        CHECK.is("T1: just left of it", 2, () -> f.square(23, 17));
        CHECK.is("T1: just right of it", 0, () -> f.square(15, 11));
        FieldRows g = new FieldRows();
        Fields.ring(g, 0, right);
        CHECK.is("T1: all others are right of it", 566, () -> g.lay(0));
        CHECK.is("T1: on it is", 2, () -> g.square(19, 14));
        CHECK.is("T1: just left is not", 0, () -> g.square(23, 17));
        CHECK.is("T1: just right is", 2, () -> g.square(15, 11));
        FieldRows falling = new FieldRows();
        Fields.ring(falling, 0, 0, 0, 39, 0, 0, 29);
        CHECK.is("T1: left of the falling line", 565, () -> falling.lay(0));
        CHECK.is("T1: on it is not", 0, () -> falling.square(19, 14));
        FieldRows other = new FieldRows();
        Fields.ring(other, 0, 39, 0, 39, 29, 0, 29);
        CHECK.is("T1: all others are right of it", 566, () -> other.lay(0));
        CHECK.is("T1: on it is", 2, () -> other.square(19, 14));
        FieldRows both = new FieldRows();
        Fields.ring(both, 0, left);
        Fields.ring(both, 1, right);
        CHECK.is("T1: no square is in both halves", 565, () -> both.lay(0));
        FieldRows steep = new FieldRows();
        Fields.ring(steep, 0, 7, 3, 8, 30, 40, 30, 40, 3);
        CHECK.is("T1: a steep side", 32 * 27 + 14, () -> steep.lay(0));
        CHECK.is("T1: on its middle", 2, () -> steep.square(7, 16));
        CHECK.is("T1: just above", 0, () -> steep.square(7, 17));
    }

    /** "FIELD, if its middle is in RING 0 and in none of the others, else OUT" */
    private static void fieldIsInNoneOfTheOthers() {
        for (int k = 1; k <= 3; k++) {
            int ring = k;
            FieldRows f = Fields.newBox(4, 4);
            Fields.box(f, ring, 1, 1, 2, 3);
            CHECK.is("T1: island " + ring + " alone", 14, () -> f.lay(0));
            CHECK.is("T1: is out", 0, () -> f.square(1, 2));
            FieldRows all = Fields.newBox(4, 4);
            Fields.box(all, ring, 0, 0, 4, 4);
            CHECK.is("T1: island " + ring + " over all the field", 0, () -> all.lay(0));
            FieldRows none = new FieldRows();
            Fields.box(none, ring, 0, 0, 40, 30);
            CHECK.is("T1: island " + ring + " without a field", 0, () -> none.lay(0));
        }
        FieldRows twice = Fields.newBox(4, 4);
        Fields.box(twice, 1, 1, 1, 3, 3);
        Fields.box(twice, 2, 1, 1, 3, 3);
        CHECK.is("T1: in two islands is no field either", 12, () -> twice.lay(0));
    }

    /** "from which a SQUARE that is OUT, or a place beyond the LAND, is at most H king's steps away (H 0 to 5)" */
    private static void atMostHeadKingsSteps() {
        int[] lows = {0, 10, 19};
        for (int low : lows) {
            for (int h = 0; h <= 5; h++) {
                int head = h;
                int at = low + h;
                FieldRows f = new FieldRows();
                Fields.box(f, 0, low, low, low + 11, low + 11);
                CHECK.is("T1: eleven by eleven", 121, () -> f.lay(head));
                CHECK.is("T1: inner", (11 - 2 * head) * (11 - 2 * head), () -> f.count(3));
                CHECK.is("T1: more than H away", 2, () -> f.square(at, at));
                if (head > 0) {
                    CHECK.is("T1: H away", 1, () -> f.square(at - 1, low + 5));
                    CHECK.is("T1: H away on the other side", 1, () -> f.square(low + 11 - head, low + 5));
                }
            }
        }
        FieldRows ten = Fields.laidBox(10, 10, 4);
        CHECK.is("T1: ten by ten, H 4", 4, () -> ten.count(3));
        ten.lay(5);
        CHECK.is("T1: ten by ten, H 5: all are HEAD", 100, () -> ten.count(2));
        CHECK.is("T1: none is INNER", 0, () -> ten.count(3));
        CHECK.fails("T1: H 6", IllegalArgumentException.class, () -> ten.lay(6));
        CHECK.fails("T1: H -1", IllegalArgumentException.class, () -> ten.lay(-1));
    }

    /** The same of what is OUT within the field, straight and slantwise. */
    private static void headOfIslands() {
        FieldRows f = Fields.newBox(40, 30);
        Fields.box(f, 1, 20, 15, 21, 16);
        f.lay(5);
        CHECK.is("T1: HEAD along the edge and around one square", 600 + 120, () -> f.count(2));
        int[][] five = {{15, 10}, {25, 10}, {15, 20}, {25, 20}, {15, 15}, {25, 15}, {20, 10}, {20, 20}, {16, 20}};
        for (int[] at : five) {
            CHECK.is("T1: five steps away", 1, () -> f.square(at[0], at[1]));
        }
        int[][] six = {{14, 9}, {26, 9}, {14, 21}, {26, 21}, {14, 15}, {26, 15}, {20, 9}, {20, 21}, {26, 18}};
        for (int[] at : six) {
            CHECK.is("T1: six steps away", 2, () -> f.square(at[0], at[1]));
        }
        FieldRows corner = Fields.newBox(5, 5);
        Fields.box(corner, 1, 2, 2, 3, 3);
        corner.lay(1);
        CHECK.same("T1: a slantwise step is one", "hhhhh hhhhh hh.hh hhhhh hhhhh", Fields.landOf(corner, 5, 5));
    }

    /** "(H 0: all are INNER.)" */
    private static void noHeadland() {
        FieldRows f = Fields.newBox(3, 3);
        Fields.box(f, 1, 1, 1, 2, 2);
        f.lay(0);
        CHECK.same("T1: H 0", "iii i.i iii", Fields.landOf(f, 3, 3));
        CHECK.is("T1: no HEAD", 0, () -> f.count(2));
        CHECK.is("T1: all INNER", 8, () -> f.count(3));
        CHECK.is("T1: H is 0", 0, () -> f.count(7));
    }

    /** "the STRIP ... is a (2 y + 1) - b (2 x + 1) by w, rounded down" */
    private static void stripsAreRoundedDown() {
        FieldRows f = Fields.laidBox(1, 6, 0);
        CHECK.is("T2: 1 3 5 7 9 11 by 3", 4, () -> f.rows(1, 0, 3));
        CHECK.same("T2: 0 1 1 2 3 3", "0 1 1 2 3 3", Fields.rowsOf(f, 1, 6));
        CHECK.same("T2: from 0", "0 1 0 0 0 0", Fields.rowOf(f, 0));
        CHECK.same("T2: to 3", "3 2 0 4 0 4", Fields.rowOf(f, 3));
        CHECK.is("T2: the negative ones by 3", 4, () -> f.rows(-1, 0, 3));
        CHECK.same("T2: -1 -1 -2 -3 -3 -4", "3 3 2 1 1 0", Fields.rowsOf(f, 1, 6));
        CHECK.same("T2: from -4", "-4 1 0 5 0 5", Fields.rowOf(f, 0));
        CHECK.same("T2: to -1, not 0", "-1 2 0 0 0 0", Fields.rowOf(f, 3));
        CHECK.is("T2: by 1", 6, () -> f.rows(-1, 0, 1));
        CHECK.same("T2: as they are", "-11 1 0 5 0 5", Fields.rowOf(f, 0));
        FieldRows wide = Fields.laidBox(6, 1, 0);
        CHECK.is("T2: of b, by 3", 4, () -> wide.rows(0, 1, 3));
        CHECK.same("T2: the greater x the less", "332110", Fields.rowsOf(wide, 6, 1));
        CHECK.same("T2: -2 by 4 is -1", "-1 1 1 0 1 0", rowsThenRow(Fields.laidBox(2, 1, 0), 1, 1, 4, 0));
        CHECK.same("T2: -4 by 4 is -1", "-1 2 1 0 2 0", rowsThenRow(Fields.laidBox(3, 1, 0), 1, 1, 4, 0));
        CHECK.same("T2: -6 by 4 is -2", "-2 1 3 0 3 0", rowsThenRow(Fields.laidBox(4, 1, 0), 1, 1, 4, 0));
        CHECK.is("T2: around 0 are two strips", 2, () -> Fields.laidBox(2, 1, 0).rows(1, 1, 400));
    }

    private static String rowsThenRow(FieldRows f, int a, int b, int width, int row) {
        f.rows(a, b, width);
        return Fields.rowOf(f, row);
    }

    /** "of a slant (a, b) (each - 9 to 9, not both 0) and a WIDTH w (1 to 400)": the greatest STRIPS and ALONGS. */
    private static void stripsAtTheirGreatest() {
        FieldRows f = new FieldRows();
        Fields.box(f, 0, 39, 29, 40, 30);
        f.lay(0);
        CHECK.same("T2: 9 59 + 9 79", "1242 1 39 29 39 29", rowsThenRow(f, 9, -9, 1, 0));
        CHECK.same("T2: its negative", "-1242 1 39 29 39 29", rowsThenRow(f, -9, 9, 1, 0));
        CHECK.same("T2: by 400", "3 1 39 29 39 29", rowsThenRow(f, 9, -9, 400, 0));
        CHECK.same("T2: its negative, rounded down", "-4 1 39 29 39 29", rowsThenRow(f, -9, 9, 400, 0));
        CHECK.same("T2: 9 59 - 9 79", "-180 1 39 29 39 29", rowsThenRow(f, 9, 9, 1, 0));
        CHECK.same("T2: its negative", "180 1 39 29 39 29", rowsThenRow(f, -9, -9, 1, 0));
        FieldRows all = Fields.laidBox(40, 30, 0);
        CHECK.is("T2: all the land in 18 to 1242 by 400", 4, () -> all.rows(9, -9, 400));
        CHECK.same("T2: its first row", "0 253 0 21 21 0", Fields.rowOf(all, 0));
        CHECK.same("T2: its last row", "3 6 37 29 39 27", Fields.rowOf(all, 3));
        CHECK.is("T2: in -1242 to -18", 4, () -> all.rows(-9, 9, 400));
        CHECK.same("T2: its first row", "-4 6 39 27 37 29", Fields.rowOf(all, 0));
        CHECK.is("T2: in -702 to 522", 4, () -> all.rows(9, 9, 400));
        CHECK.same("T2: along 18 to 1242", "0 437 0 0 29 29", Fields.rowOf(all, 2));
        CHECK.is("T2: in -522 to 702", 4, () -> all.rows(-9, -9, 400));
        CHECK.same("T2: along -1242 to -18", "0 612 39 29 0 0", Fields.rowOf(all, 2));
    }

    /** "INNER SQUARES of one STRIP that hang together by king's steps, all that do" */
    private static void rowsHangTogether() {
        FieldRows f = Fields.newBox(5, 4);
        Fields.box(f, 1, 2, 1, 3, 4);
        f.lay(0);
        CHECK.is("T2: arms that meet in another strip are two", 3, () -> f.rows(1, 0, 4));
        CHECK.same("T2: arms that meet in theirs are one", "00000 00.00 11.22 11.22", Fields.rowsOf(f, 5, 4));
        CHECK.is("T2: all of one strip", 1, () -> f.rows(1, 0, 400));
        CHECK.same("T2: hang together around", "0 17 0 0 4 0", Fields.rowOf(f, 0));
        CHECK.is("T2: strips of one y", 7, () -> f.rows(1, 0, 2));
        CHECK.same("T2: each arm is cut", "00000 11.22 33.44 55.66", Fields.rowsOf(f, 5, 4));
        CHECK.is("T2: slantwise", 1, () -> Fields.twoSquares(0, 0, 1, 1).rows(1, 0, 400));
        CHECK.is("T2: slantwise the other way", 1, () -> Fields.twoSquares(1, 0, 0, 1).rows(1, 0, 400));
        CHECK.is("T2: two apart do not", 2, () -> Fields.twoSquares(0, 0, 2, 0).rows(1, 0, 400));
        CHECK.is("T2: a knight's step does not", 2, () -> Fields.twoSquares(0, 0, 1, 2).rows(1, 0, 400));
        FieldRows head = Fields.newBox(9, 3);
        head.lay(1);
        CHECK.same("T2: HEAD is of no row", "......... .0000000. .........", rowsThenMap(head, 1, 0, 2, 9, 3));
        Fields.box(head, 1, 4, 0, 5, 1);
        head.lay(1);
        CHECK.same("T2: and cuts one", "......... .00...11. .........", rowsThenMap(head, 1, 0, 2, 9, 3));
    }

    private static String rowsThenMap(FieldRows f, int a, int b, int width, int wide, int high) {
        f.rows(a, b, width);
        return Fields.rowsOf(f, wide, high);
    }

    /** The same at the land's edge: x 39 has no neighbour at x 0. */
    private static void rowsAreNotHungOverTheEdge() {
        FieldRows f = Fields.newBox(40, 30);
        Fields.box(f, 1, 1, 0, 39, 30);
        CHECK.is("T2: columns 0 and 39", 60, () -> f.lay(0));
        CHECK.is("T2: are two rows", 2, () -> f.rows(1, 0, 400));
        CHECK.same("T2: column 0", "0 30 0 0 0 0", Fields.rowOf(f, 0));
        CHECK.same("T2: column 39", "0 30 39 0 39 0", Fields.rowOf(f, 1));
        FieldRows next = Fields.twoSquares(39, 0, 0, 1);
        CHECK.is("T2: (39, 0) and (0, 1)", 2, () -> next.rows(1, 0, 400));
        CHECK.is("T2: (39, 1) and (0, 1)", 2, () -> Fields.twoSquares(39, 1, 0, 1).rows(1, 0, 400));
        CHECK.is("T2: (39, 0) and (0, 2)", 2, () -> Fields.twoSquares(39, 0, 0, 2).rows(1, 0, 400));
        CHECK.is("T2: (0, 0) and (0, 29)", 2, () -> Fields.twoSquares(0, 0, 0, 29).rows(0, 1, 400));
        CHECK.is("T2: (0, 0) and (39, 29)", 2, () -> Fields.twoSquares(0, 0, 39, 29).rows(1, 0, 400));
        CHECK.is("T2: no way over the edge either", NONE, () -> next.way(39, 0, 0, 1));
    }

    /** "numbered from 0 on by STRIPS, in one by their first SQUARES' ALONG, then y, then x" */
    private static void numbersOfRows() {
        FieldRows bars = Fields.newBox(3, 3);
        Fields.box(bars, 1, 0, 1, 3, 2);
        bars.lay(0);
        CHECK.same("T2: of the same ALONG by y", "000 ... 111", rowsThenMap(bars, 1, 0, 400, 3, 3));
        CHECK.same("T2: backwards, too", "000 ... 111", rowsThenMap(bars, -1, 0, 400, 3, 3));
        CHECK.same("T2: by STRIPS ahead of all", "111 ... 000", rowsThenMap(bars, -1, 0, 3, 3, 3));
        CHECK.same("T2: by ALONG", "111 ... 000", rowsThenMap(bars, 0, -1, 400, 3, 3));
        Fields.box(bars, 2, 0, 0, 1, 1);
        bars.lay(0);
        CHECK.same("T2: by ALONG ahead of y", ".11 ... 000", rowsThenMap(bars, 1, 0, 400, 3, 3));
        FieldRows pair = Fields.twoSquares(0, 0, 2, 0);
        CHECK.same("T2: of the same ALONG and y by x", "0.1", rowsThenMap(pair, 0, 1, 400, 3, 1));
        CHECK.same("T2: backwards, too", "0.1", rowsThenMap(pair, 0, -1, 400, 3, 1));
        FieldRows slant = Fields.twoSquares(0, 4, 2, 2);
        CHECK.is("T2: of the same ALONG, one strip", 2, () -> slant.rows(1, 1, 400));
        CHECK.is("T2: the lesser y, not the lesser x", 0, () -> slant.rowOf(2, 2));
        CHECK.is("T2: ahead of the greater", 1, () -> slant.rowOf(0, 4));
        FieldRows square = Fields.twoSquares(0, 0, 3, 3);
        CHECK.is("T2: of one strip, forwards", 2, () -> square.rows(1, 1, 400));
        CHECK.is("T2: the lesser ALONG", 0, () -> square.rowOf(0, 0));
        CHECK.is("T2: of one strip, backwards", 2, () -> square.rows(-1, -1, 400));
        CHECK.is("T2: the lesser ALONG, not the lesser y", 0, () -> square.rowOf(3, 3));
    }

    /** "of the least ALONG, of several of the least y, then x ...; END 1 ... likewise ... (perhaps the same)" */
    private static void endsOfRows() {
        FieldRows f = Fields.laidBox(3, 2, 0);
        CHECK.same("T2: along x, of several y the least", "0 6 0 0 2 0", rowsThenRow(f, 1, 0, 400, 0));
        CHECK.same("T2: backwards", "-1 6 2 0 0 0", rowsThenRow(f, -1, 0, 400, 0));
        CHECK.same("T2: along y, of several x the least", "-1 6 0 0 0 1", rowsThenRow(f, 0, 1, 400, 0));
        CHECK.same("T2: backwards", "0 6 0 1 0 0", rowsThenRow(f, 0, -1, 400, 0));
        FieldRows cut = Fields.newBox(3, 3);
        Fields.box(cut, 1, 1, 2, 3, 3);
        cut.lay(0);
        cut.rows(1, 1, 400);
        CHECK.same("T2: a cut box", "100 110 1..", Fields.rowsOf(cut, 3, 3));
        CHECK.same("T2: END 1 of (1, 1) and (0, 2) is that of the least y", "0 4 0 0 1 1", Fields.rowOf(cut, 1));
        cut.rows(-1, -1, 400);
        CHECK.same("T2: backwards", "111 011 0..", Fields.rowsOf(cut, 3, 3));
        CHECK.same("T2: its first row", "-1 2 0 2 0 1", Fields.rowOf(cut, 0));
        CHECK.same("T2: its second row", "0 5 2 1 0 0", Fields.rowOf(cut, 1));
        FieldRows low = lowCut();
        CHECK.same("T2: another cut", ".00 .10 111", Fields.rowsOf(low, 3, 3));
        CHECK.same("T2: END 0 of (1, 1) and (0, 2) is that of the least y", "0 4 1 1 2 2", Fields.rowOf(low, 1));
        FieldRows one = Fields.laidBox(1, 1, 0);
        CHECK.same("T2: one SQUARE is both", "0 1 0 0 0 0", rowsThenRow(one, 1, 0, 2, 0));
        FieldRows across = Fields.laidBox(1, 3, 0);
        CHECK.same("T2: across its slant one SQUARE is both", "0 3 0 0 0 0", rowsThenRow(across, 1, 0, 400, 0));
    }

    /** 3 x 3 without (0, 0) and (0, 1), in two rows along the slant (1, 1). */
    private static FieldRows lowCut() {
        FieldRows f = Fields.newBox(3, 3);
        Fields.box(f, 1, 0, 0, 1, 2);
        f.lay(0);
        f.rows(1, 1, 400);
        return f;
    }

    /** "steps to a neighbour, 5 straight, 7 slantwise ...; its length is the least sum (0 of a SQUARE to itself)" */
    private static void steps() {
        FieldRows f = Fields.laidBox(3, 3, 0);
        CHECK.is("T2: an INNER SQUARE to itself", 0, () -> f.way(1, 1, 1, 1));
        for (int k = 0; k < 9; k++) {
            int x = k % 3;
            int y = k / 3;
            if (k != 4) {
                CHECK.is("T2: to a neighbour", x == 1 || y == 1 ? 5 : 7, () -> f.way(1, 1, x, y));
                CHECK.is("T2: from a neighbour", x == 1 || y == 1 ? 5 : 7, () -> f.way(x, y, 1, 1));
            }
        }
        CHECK.is("T2: to none but neighbours without a headland", NONE, () -> f.way(0, 0, 2, 0));
        CHECK.is("T2: nor slantwise", NONE, () -> f.way(0, 0, 2, 2));
        FieldRows all = Fields.laidBox(10, 10, 5);
        CHECK.is("T2: a HEAD SQUARE to itself", 0, () -> all.way(9, 9, 9, 9));
        CHECK.is("T2: straight", 45, () -> all.way(0, 0, 9, 0));
        CHECK.is("T2: slantwise", 63, () -> all.way(0, 9, 9, 0));
        CHECK.is("T2: once slantwise", 47, () -> all.way(9, 1, 0, 0));
        CHECK.is("T2: a knight's step", 12, () -> all.way(4, 4, 5, 6));
        FieldRows wall = Fields.newBox(40, 10);
        Fields.box(wall, 1, 2, 1, 3, 10);
        wall.lay(5);
        CHECK.is("T2: straight and slantwise ones around", 6 * 5 + 7 + 7 + 6 * 5, () -> wall.way(1, 7, 3, 7));
    }

    /** "over HEAD SQUARES alone between the two" */
    private static void overHeadAlone() {
        FieldRows f = Fields.laidBox(5, 5, 1);
        CHECK.is("T2: not through what is INNER", 5 + 7 + 10 + 7 + 5, () -> f.way(0, 2, 4, 2));
        CHECK.is("T2: but from what is INNER", 7 + 7 + 10 + 7 + 5, () -> f.way(1, 2, 4, 2));
        CHECK.is("T2: and to it", 5 + 7 + 10 + 7 + 7, () -> f.way(4, 2, 1, 2));
        CHECK.is("T2: from INNER to INNER", 7 + 7 + 10 + 7 + 7, () -> f.way(1, 2, 3, 2));
        CHECK.is("T2: the middle has no HEAD beside it", NONE, () -> f.way(2, 2, 0, 2));
        CHECK.is("T2: nor is it reached", NONE, () -> f.way(0, 2, 2, 2));
        CHECK.is("T2: but by its neighbour", 5, () -> f.way(1, 2, 2, 2));
        FieldRows g = Fields.laidBox(7, 3, 1);
        CHECK.is("T2: two apart", 14, () -> g.way(1, 1, 3, 1));
        CHECK.is("T2: four apart", 24, () -> g.way(1, 1, 5, 1));
        FieldRows out = Fields.newBox(5, 1);
        Fields.box(out, 1, 2, 0, 3, 1);
        out.lay(1);
        CHECK.is("T2: not through what is OUT", NONE, () -> out.way(0, 0, 4, 0));
        CHECK.is("T2: not beside it", NONE, () -> out.way(1, 0, 3, 0));
        CHECK.is("T2: on its side", 5, () -> out.way(0, 0, 1, 0));
    }

    /** The longest ways, and those that would be short over the land's edge. */
    private static void waysRoundTheLand() {
        FieldRows f = Fields.newBox(40, 30);
        Fields.box(f, 1, 9, 0, 10, 29);
        Fields.box(f, 2, 19, 1, 20, 30);
        Fields.box(f, 3, 29, 0, 30, 29);
        CHECK.is("T2: three walls", 1200 - 3 * 29, () -> f.lay(5));
        CHECK.is("T2: all are HEAD", 1200 - 3 * 29, () -> f.count(2));
        int first = 9 * 7 + 20 * 5;
        int next = 10 * 7 + 19 * 5;
        CHECK.is("T2: through three gates", first + 3 * next, () -> f.way(0, 0, 39, 0));
        CHECK.is("T2: and back", first + 3 * next, () -> f.way(39, 0, 0, 0));
        CHECK.is("T2: to the second gate", first + next, () -> f.way(0, 0, 19, 0));
        FieldRows sides = Fields.newBox(40, 30);
        Fields.box(sides, 1, 1, 0, 39, 30);
        sides.lay(1);
        for (int dy = -1; dy <= 1; dy++) {
            int y = 10 + dy;
            CHECK.is("T2: not over the right edge", NONE, () -> sides.way(39, 10, 0, y));
            CHECK.is("T2: not over the left edge", NONE, () -> sides.way(0, 10, 39, y));
        }
        CHECK.is("T2: along the left edge", 29 * 5, () -> sides.way(0, 0, 0, 29));
        FieldRows bars = Fields.newBox(40, 30);
        Fields.box(bars, 1, 0, 1, 40, 29);
        bars.lay(1);
        CHECK.is("T2: not over the lower edge", NONE, () -> bars.way(5, 0, 5, 29));
        CHECK.is("T2: not over the upper edge", NONE, () -> bars.way(5, 29, 5, 0));
        CHECK.is("T2: along the upper edge", 39 * 5, () -> bars.way(0, 29, 39, 29));
    }

    /** "A TURN is the WAY from one ROW's END to another ROW's": of a row of one square both ENDS have the same. */
    private static void turnsOfOneSquare() {
        FieldRows f = Fields.bareTriangle();
        CHECK.is("T2: from END 0", 5, () -> f.turn(0, 2));
        CHECK.is("T2: from END 1", 5, () -> f.turn(1, 2));
        CHECK.is("T2: to the other END from END 0", 7, () -> f.turn(0, 3));
        CHECK.is("T2: to the other END from END 1", 7, () -> f.turn(1, 3));
        CHECK.is("T2: back to END 0", 5, () -> f.turn(2, 0));
        CHECK.is("T2: back to END 1", 5, () -> f.turn(2, 1));
        CHECK.is("T2: none without HEAD between", NONE, () -> f.turn(1, 4));
    }

    /** "Its SUM: the TURNS from each to the next one; none if one is none." */
    private static void plansWithoutSum() {
        FieldRows f = Fields.bareTriangle();
        CHECK.is("T2: 5 and 7", 12, f::best);
        CHECK.same("T2: rows 0, 1, 2", "0 2 4", Fields.planOf(f));
        CHECK.is("T2: row 0 at its other END", 12, () -> f.swing(0, 0));
        CHECK.is("T2: row 1 at its other END", 12, () -> f.swing(1, 1));
        CHECK.is("T2: row 2 at its other END", NONE, () -> f.swing(2, 2));
        CHECK.same("T2: the last turn is none", "1 3 5", Fields.planOf(f));
        CHECK.is("T2: rows 1, 0, 2", NONE, () -> f.swing(0, 1));
        CHECK.is("T2: rows 1, 2, 0", NONE, () -> f.swing(1, 2));
        CHECK.is("T2: rows 0, 2, 1", NONE, () -> f.swing(0, 2));
        CHECK.same("T2: the first turn is none", "0 5 3", Fields.planOf(f));
    }

    /** Rows 0 to high - 1 along x without a headland: one of three squares, then of one each. */
    private static FieldRows stalk(int high) {
        FieldRows f = new FieldRows();
        Fields.ring(f, 0, 0, 0, 3, 0, 3, 1, 1, 1, 1, high, 0, high);
        f.lay(0);
        f.rows(1, 0, 2);
        return f;
    }

    /** "Up to 9 ROWS: of all PLANS one with the least SUM ... More: the first number is 0" */
    private static void nineRowsAndTen() {
        FieldRows nine = stalk(9);
        CHECK.is("T3: nine rows: the first may be entered at END 1", 40, nine::best);
        CHECK.same("T3: from it on", "1 2 4 6 8 10 12 14 16", Fields.planOf(nine));
        FieldRows ten = stalk(10);
        CHECK.is("T3: ten rows", 10, () -> ten.count(4));
        CHECK.is("T3: ten rows: from 0 there is no turn", NONE, ten::best);
        CHECK.is("T3: no PLAN", 0, () -> ten.count(5));
        FieldRows least = Fields.laidBox(5, 13, 1);
        CHECK.is("T3: nine slanting rows", 9, () -> least.rows(1, -1, 3));
        CHECK.is("T3: the least of all PLANS", 40, least::best);
        FieldRows nearest = Fields.laidBox(13, 6, 1);
        CHECK.is("T3: ten slanting rows", 10, () -> nearest.rows(1, 1, 3));
        CHECK.is("T3: not the least of all, which is 63", 99, nearest::best);
        FieldRows none = Fields.laidBox(2, 2, 5);
        CHECK.is("T3: no ROWS", 0, () -> none.rows(1, 0, 1));
        CHECK.is("T3: a SUM of nothing", 0, none::best);
        CHECK.is("T3: a PLAN of nothing", 1, () -> none.count(5));
        CHECK.is("T3: without numbers", NONE, () -> none.plan(0));
        FieldRows one = Fields.laidBox(2, 2, 0);
        one.rows(1, 0, 400);
        CHECK.is("T3: one ROW", 0, one::best);
        CHECK.same("T3: from END 0", "0", Fields.planOf(one));
    }

    /** "of several the first by its numbers"; "of several the least number" */
    private static void firstByItsNumbers() {
        FieldRows few = Fields.laidBox(11, 3, 1);
        CHECK.is("T3: nine ROWS of one SQUARE", 9, () -> few.rows(0, 1, 2));
        CHECK.is("T3: side by side", 40, few::best);
        CHECK.same("T3: each at END 0", "0 2 4 6 8 10 12 14 16", Fields.planOf(few));
        FieldRows many = Fields.laidBox(12, 3, 1);
        CHECK.is("T3: ten ROWS of one SQUARE", 10, () -> many.rows(0, 1, 2));
        CHECK.is("T3: side by side", 45, many::best);
        CHECK.same("T3: each at END 0", "0 2 4 6 8 10 12 14 16 18", Fields.planOf(many));
        CHECK.is("T3: again the same", 45, many::best);
        CHECK.same("T3: each once", "0 2 4 6 8 10 12 14 16 18", Fields.planOf(many));
        few.swing(0, 8);
        CHECK.is("T3: after a swing the same", 40, few::best);
        CHECK.same("T3: the first by its numbers", "0 2 4 6 8 10 12 14 16", Fields.planOf(few));
    }

    /** "none, if all have none" */
    private static void noneOfAllPlans() {
        FieldRows f = Fields.apart();
        CHECK.is("T3: two ROWS apart", 2, () -> f.rows(1, 0, 400));
        CHECK.is("T3: none", NONE, f::best);
        CHECK.is("T3: no PLAN", 0, () -> f.count(5));
        CHECK.is("T3: no number", NONE, () -> f.plan(0));
        CHECK.is("T3: the ROWS stay", 2, () -> f.count(4));
        FieldRows dead = Fields.newBox(3, 3);
        Fields.box(dead, 1, 1, 1, 3, 2);
        dead.lay(0);
        CHECK.is("T3: three ROWS", 3, () -> dead.rows(1, 0, 2));
        CHECK.is("T3: one PLAN alone has a SUM, there and back", 10, dead::best);
        CHECK.same("T3: it is found", "1 2 4", Fields.planOf(dead));
    }

    /** "(none if there is no TURN to any)": at the first, in the middle, and at the last place */
    private static void noTurnToAny() {
        CHECK.is("T3: at the first", NONE, () -> stalk(10).best());
        FieldRows middle = Fields.newBox(7, 3);
        Fields.box(middle, 1, 2, 1, 3, 3);
        middle.lay(0);
        CHECK.is("T3: ten ROWS", 10, () -> middle.rows(1, -1, 1));
        CHECK.is("T3: later, though there is a PLAN of 47", NONE, middle::best);
        FieldRows last = Fields.newBox(7, 12);
        Fields.box(last, 1, 0, 10, 7, 11);
        last.lay(0);
        CHECK.is("T3: ten and one", 11, () -> last.rows(1, 0, 2));
        CHECK.is("T3: at the last", NONE, last::best);
        CHECK.is("T3: no PLAN", 0, () -> last.count(5));
    }

    /** "(i from 0 on, of each i j from i on) the first one ... gives a lesser SUM is turned round; till there is none" */
    private static void stretchesFromTheFirstOn() {
        FieldRows single = Fields.newBox(4, 12);
        Fields.box(single, 1, 3, 3, 4, 4);
        single.lay(1);
        CHECK.is("T3: ten ROWS", 10, () -> single.rows(1, 0, 2));
        CHECK.is("T3: 47, with the first place alone turned round", 45, single::best);
        CHECK.same("T3: i 0, j 0", "1 2 4 6 8 11 12 15 16 19", Fields.planOf(single));
        FieldRows again = Fields.newBox(9, 9);
        Fields.box(again, 1, 2, 2, 5, 5);
        again.lay(1);
        CHECK.is("T3: twelve ROWS", 12, () -> again.rows(1, -1, 2));
        CHECK.is("T3: 86, by the first stretch that lessens, again and again", 63, again::best);
        CHECK.same("T3: not by the one that lessens most (71)", "0 4 8 12 16 10 3 7 15 19 20 22", Fields.planOf(again));
        FieldRows tail = Fields.newBox(10, 9);
        Fields.box(tail, 1, 1, 4, 2, 5);
        tail.lay(1);
        CHECK.is("T3: ten ROWS along y", 10, () -> tail.rows(0, 1, 2));
        CHECK.is("T3: 69, up to the last place", 64, tail::best);
        CHECK.same("T3: j at the last place", "0 3 4 7 8 11 12 16 14 19", Fields.planOf(tail));
        FieldRows outer = Fields.newBox(11, 10);
        Fields.box(outer, 1, 9, 7, 12, 8);
        Fields.box(outer, 2, 5, 2, 7, 5);
        outer.lay(1);
        CHECK.is("T3: thirteen ROWS", 13, () -> outer.rows(1, 0, 2));
        CHECK.is("T3: 126, all j of one i ahead of the next i", 96, outer::best);
        CHECK.same("T3: not all i of one j (98)", "3 6 11 14 19 21 22 25 0 5 8 13 16", Fields.planOf(outer));
    }

    /** "their sum less the greatest; 0 of fewer than two; none if one ROW has none" */
    private static void boundOfFewAndOfNone() {
        FieldRows none = Fields.laidBox(2, 2, 5);
        none.rows(1, 0, 1);
        CHECK.is("T3: no ROW", 0, none::bound);
        FieldRows one = Fields.laidBox(2, 2, 0);
        one.rows(1, 0, 400);
        CHECK.is("T3: one ROW, though it has no TURN", 0, one::bound);
        FieldRows two = Fields.laidBox(6, 4, 1);
        CHECK.is("T3: two ROWS", 2, () -> two.rows(1, 0, 2));
        CHECK.is("T3: 5 and 5 less 5", 5, two::bound);
        FieldRows far = Fields.newBox(9, 3);
        Fields.box(far, 1, 4, 0, 5, 1);
        far.lay(1);
        CHECK.is("T3: two ROWS in a line", 2, () -> far.rows(1, 0, 2));
        CHECK.is("T3: from END 1 to END 0", 20, far::bound);
        FieldRows apart = Fields.apart();
        apart.rows(1, 0, 400);
        CHECK.is("T3: two ROWS, both without", NONE, apart::bound);
        FieldRows first = Fields.bareTriangle();
        CHECK.is("T3: 5, 5 and 5 by ENDS 0", 10, first::bound);
        first.rows(0, -1, 2);
        CHECK.is("T3: by ENDS 1", 10, first::bound);
        FieldRows last = Fields.newBox(3, 5);
        Fields.box(last, 1, 0, 3, 3, 4);
        last.lay(0);
        CHECK.is("T3: four ROWS", 4, () -> last.rows(1, 0, 2));
        CHECK.is("T3: the last one has none", NONE, last::bound);
        CHECK.is("T3: numbered backwards", 4, () -> last.rows(-1, 0, 2));
        CHECK.is("T3: the first one has none", NONE, last::bound);
    }

    /** "TICKS of a PLAN: how many INNER SQUARES there are, and its SUM." */
    private static void ticksOfAPlan() {
        FieldRows f = Fields.threeRows();
        f.best();
        CHECK.is("T3: 12 and 10, which a RUN takes without wagons", 22, f::run);
        FieldRows none = Fields.laidBox(2, 2, 5);
        none.slant(1, 0);
        CHECK.is("T3: TICKS of nothing are 0, and the least", 0, () -> none.choose(1));
    }

    /** "the reaper's BUNKER is empty" */
    private static void bunkerIsEmptyAtFirst() {
        FieldRows f = Fields.laidBox(1, 1, 0);
        f.rows(1, 0, 1);
        f.best();
        f.yields(0, 0, 600);
        f.run();
        CHECK.same("T4: a RUN", "1 1 600 600 0 0 0 600", Fields.looksOf(f));
        f.run();
        CHECK.same("T4: another one begins anew", "1 1 600 600 0 0 0 600", Fields.looksOf(f));
        f.yields(0, 0, 0);
        f.run();
        CHECK.same("T4: nothing is left of the earlier ones", "1 1 0 0 0 0 0 0", Fields.looksOf(f));
    }

    /** Wagons tell the order: each SQUARE yields 1, and the bunker holds one. */
    private static String orderOf(FieldRows f, int wide, int high) {
        for (int x = 0; x < wide; x++) {
            for (int y = 0; y < high; y++) {
                f.yields(x, y, 1);
            }
        }
        f.reaper(1, 0, 0);
        f.run();
        return Fields.wagonsOf(f);
    }

    /** "by ALONG (from END 1 by falling ALONG), of the same by y, then x (falling, too, from END 1)" */
    private static void orderOfSquares() {
        FieldRows f = Fields.laidBox(2, 2, 0);
        f.rows(1, 0, 400);
        f.best();
        CHECK.same("T4: of the same ALONG by y", "40 1 41", orderOf(f, 2, 2));
        f.swing(0, 0);
        CHECK.same("T4: falling from END 1", "1 40 0", orderOf(f, 2, 2));
        f.rows(0, 1, 400);
        f.best();
        CHECK.same("T4: of the same ALONG and y by x", "1 40 41", orderOf(f, 2, 2));
        f.swing(0, 0);
        CHECK.same("T4: falling from END 1", "40 1 0", orderOf(f, 2, 2));
        f.rows(-1, 0, 400);
        f.best();
        CHECK.same("T4: backwards, of the same ALONG still by y", "41 0 40", orderOf(f, 2, 2));
        f.swing(0, 0);
        CHECK.same("T4: falling from END 1", "0 41 1", orderOf(f, 2, 2));
        FieldRows low = lowCut();
        CHECK.is("T4: two rows", 5, low::best);
        CHECK.same("T4: from (1, 0) on", "0 2", Fields.planOf(low));
        CHECK.same("T4: (1, 1) ahead of (0, 2) in the second", "2 42 41 80 81 82", orderOf(low, 3, 3));
    }

    /** "if BUNKER and YIELD would be above the bunker's CAPACITY a WAGON comes" */
    private static void aboveCapacity() {
        FieldRows f = Fields.laidBox(40, 3, 0);
        f.rows(1, 0, 400);
        f.best();
        for (int k = 0; k < 120; k++) {
            f.yields(k % 40, k / 40, 1000);
        }
        f.reaper(100000, 0, 1000);
        CHECK.is("T4: the greatest CAPACITY, and UNLOAD", 1120, f::run);
        CHECK.same("T4: just full at the hundredth", "1120 120 120000 20000 1 100000 0 100000", Fields.looksOf(f));
        CHECK.is("T4: a wagon at the next one", 73, () -> f.wagon(0));
        CHECK.is("T4: and no other", NONE, () -> f.wagon(1));
        f.reaper(999, 0, 1);
        CHECK.is("T4: each YIELD above CAPACITY", 240, f::run);
        CHECK.same("T4: a wagon at each, to the empty one, too", "240 120 120000 1000 120 119000 0 1000",
                Fields.looksOf(f));
        CHECK.is("T4: at the first", 0, () -> f.wagon(0));
        CHECK.is("T4: at the last", 119, () -> f.wagon(119));
        CHECK.is("T4: and no more", NONE, () -> f.wagon(120));
        f.reaper(1000, 0, 1);
        f.run();
        CHECK.same("T4: each just full", "239 120 120000 1000 119 119000 0 1000", Fields.looksOf(f));
        FieldRows still = Fields.laidBox(3, 1, 0);
        still.rows(1, 0, 2);
        still.best();
        still.reaper(1, 0, 5);
        still.yields(0, 0, 2);
        CHECK.is("T4: BUNKER above CAPACITY, YIELD 0: a wagon, too", 13, still::run);
        CHECK.same("T4: it takes that", "13 3 2 0 2 2 0 2", Fields.looksOf(still));
        CHECK.same("T4: once", "0 1", Fields.wagonsOf(still));
    }

    private static int crushedBy(FieldRows f) {
        f.run();
        return f.look(6);
    }

    /** "if the WEIGHT of the reaper and BUNKER together are above what the SQUARE BEARS it is CRUSHED" */
    private static void aboveWhatItBears() {
        FieldRows f = Fields.laidBox(3, 1, 0);
        f.rows(1, 0, 2);
        f.best();
        f.bears(0, 0, 0);
        CHECK.is("T4: nothing on what bears nothing", 0, () -> crushedBy(f));
        f.yields(0, 0, 1);
        CHECK.is("T4: one on what bears nothing", 1, () -> crushedBy(f));
        f.bears(0, 0, 1);
        CHECK.is("T4: one on what bears one", 0, () -> crushedBy(f));
        f.reaper(10, 99, 0);
        f.yields(0, 0, 10);
        f.yields(1, 0, 1);
        f.bears(0, 0, 109);
        f.bears(1, 0, 100);
        f.bears(2, 0, 100);
        CHECK.is("T4: the YIELD counts, what the wagon took does not", 0, () -> crushedBy(f));
        f.bears(0, 0, 108);
        CHECK.is("T4: the first by one", 1, () -> crushedBy(f));
        f.bears(1, 0, 99);
        CHECK.is("T4: the second by one", 2, () -> crushedBy(f));
        f.bears(2, 0, 99);
        CHECK.is("T4: the third by what is in the BUNKER still", 3, () -> crushedBy(f));
        f.reaper(10, 98, 0);
        CHECK.is("T4: not with a lesser WEIGHT", 0, () -> crushedBy(f));
    }

    /** "Ticks: 1 a SQUARE, TURNS, UNLOADS." */
    private static void ticksOfARun() {
        FieldRows f = Fields.threeRows();
        f.best();
        f.reaper(1, 0, 1000);
        f.yields(1, 1, 1);
        f.yields(4, 3, 1);
        CHECK.is("T4: 12, 10 and 1000", 1022, f::run);
        CHECK.is("T4: as look tells", 1022, () -> f.look(0));
        f.swing(0, 0);
        CHECK.is("T4: with the TURNS of another PLAN", 12 + 36 + 1000, f::run);
        f.reaper(1, 0, 0);
        CHECK.is("T4: UNLOAD 0", 12 + 36, f::run);
    }

    /** "(YIELDS 0 at first, 0 to 1000; all BEAR 1000000 at first.)" */
    private static void yieldsAndBearingsAtFirst() {
        FieldRows f = Fields.laidBox(40, 30, 0);
        f.rows(1, 0, 400);
        f.best();
        f.reaper(1, 1000000, 0);
        CHECK.is("T4: a SQUARE a tick", 1200, f::run);
        CHECK.same("T4: no YIELD, none CRUSHED by the greatest WEIGHT", "1200 1200 0 0 0 0 0 0", Fields.looksOf(f));
        f.yields(0, 0, 1);
        f.run();
        CHECK.is("T4: all CRUSHED by one more, which no WAGON takes", 1200, () -> f.look(6));
    }
}
