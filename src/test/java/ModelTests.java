import java.util.ArrayList;
import java.util.List;
import java.util.Random;

/**
 * Runs of random calls on FieldRows and on Model, whose answers must be the same. What to call next
 * is read from the Model alone, so that no object gets more than 512 calls.
 */
public final class ModelTests {
    private static final int[] WILD = {Integer.MIN_VALUE, -1000, -10, -9, -2, -1, 0, 1, 2, 5, 6, 8, 9, 10, 11, 12, 13,
        29, 30, 31, 39, 40, 41, 60, 119, 120, 400, 401, 1000, 1001, 100000, 100001, 1000000, 1000001,
        Integer.MAX_VALUE};

    /** Headlands of one and two are the richest: there is something to turn in and something to do. */
    private static final int[] HEADS = {0, 1, 1, 1, 2, 2, 3, 5};

    private final Random random;
    private final FieldRows rows = new FieldRows();
    private final Model model = new Model();
    private final Check check;
    private final List<String> told = new ArrayList<>();
    private int calls = 0;

    private ModelTests(long seed, Check check) {
        this.random = new Random(seed);
        this.check = check;
    }

    public static void main(String[] args) {
        int runs = args.length > 0 ? Integer.parseInt(args[0]) : 400;
        long first = args.length > 1 ? Long.parseLong(args[1]) : 1;
        Check check = new Check("ModelTests");
        for (long seed = first; seed < first + runs && check.wrong() == 0; seed++) {
            ModelTests run = new ModelTests(seed, check);
            run.go(seed);
            if (check.wrong() != 0) {
                System.out.println("seed " + seed + ": " + String.join("; ", run.told));
            }
        }
        check.end();
    }

    private void go(long seed) {
        int mostRows = seed % 4 == 0 ? 60 : 14;
        while (calls < 470 && check.wrong() == 0) {
            if (random.nextInt(12) == 0 || calls == 0) {
                makeField();
                call("lay", HEADS[random.nextInt(HEADS.length)]);
            }
            if (random.nextInt(6) == 0 || model.count(0) == 0) {
                call("lay", HEADS[random.nextInt(HEADS.length)]);
            }
            for (int k = 0; k < 12; k++) {
                doSomething(mostRows);
            }
        }
    }

    private void makeField() {
        for (int ring = 0; ring < 4; ring++) {
            call("clear", ring);
        }
        boolean wide = random.nextBoolean();
        makeRing(0, wide ? 40 : 10 + random.nextInt(20), wide ? 30 : 8 + random.nextInt(15));
        int islands = random.nextInt(3);
        for (int ring = 1; ring <= islands; ring++) {
            makeRing(ring, 25, 20);
        }
    }

    private void makeRing(int ring, int wide, int high) {
        int kind = random.nextInt(3);
        if (kind == 0) {
            int left = ring == 0 ? 0 : random.nextInt(wide);
            int low = ring == 0 ? 0 : random.nextInt(high);
            int right = ring == 0 ? wide : Math.min(40, left + 1 + random.nextInt(8));
            int top = ring == 0 ? high : Math.min(30, low + 1 + random.nextInt(8));
            call("corner", ring, left, low);
            call("corner", ring, right, low);
            call("corner", ring, right, top);
            call("corner", ring, left, top);
            return;
        }
        int corners = kind == 1 ? 3 : 4 + random.nextInt(10);
        for (int k = 0; k < corners; k++) {
            call("corner", ring, random.nextInt(wide + 1), random.nextInt(high + 1));
        }
    }

    private void doSomething(int mostRows) {
        switch (random.nextInt(14)) {
            case 0:
            case 1:
            case 2:
                makeRows(mostRows);
                break;
            case 3:
            case 4:
                call("best");
                lookAtPlan();
                break;
            case 5:
                call("bound");
                break;
            case 6:
                swingSome();
                break;
            case 7:
                for (int k = 0; k < 5; k++) {
                    call("yields", random.nextInt(15), random.nextInt(12), random.nextInt(1001));
                    call("bears", random.nextInt(15), random.nextInt(12), random.nextInt(3000));
                }
                call("reaper", 1 + random.nextInt(1500), random.nextInt(2000), random.nextInt(20));
                break;
            case 8:
            case 9:
            case 10:
                call("run");
                for (int k = 0; k < 8; k++) {
                    call("look", k);
                }
                for (int k = 0; k < 4; k++) {
                    call("wagon", k);
                }
                break;
            case 11:
                chooseOne(mostRows);
                break;
            case 12:
                askAround();
                break;
            default:
                callWild();
        }
    }

    private void makeRows(int mostRows) {
        int a = random.nextInt(19) - 9;
        int b = random.nextInt(19) - 9;
        if (random.nextInt(3) == 0) {
            a = random.nextInt(3) - 1;
            b = random.nextInt(3) - 1;
        }
        for (int k = 0; k < 3; k++) {
            int width = 1 + random.nextInt(random.nextBoolean() ? 400 : 20);
            call("rows", a, b, width);
            if (model.count(3) == 0 || model.count(4) > 0 && model.count(4) <= mostRows) {
                break;
            }
        }
        if (model.count(4) > mostRows) {
            call("rows", a, b, 400);
        }
        int some = Math.min(model.count(4), 3);
        for (int k = 0; k < some; k++) {
            int row = random.nextInt(model.count(4));
            for (int what = 0; what < 6; what++) {
                call("row", row, what);
            }
            call("turn", random.nextInt(2 * model.count(4)), random.nextInt(2 * model.count(4)));
        }
    }

    private void swingSome() {
        if (model.count(5) == 0) {
            call("best");
        }
        int size = Math.max(model.count(4), 1);
        for (int k = 0; k < 3; k++) {
            int i = random.nextInt(size);
            call("swing", i, i + random.nextInt(size + 1 - i));
            call("run");
        }
    }

    private void lookAtPlan() {
        int size = Math.min(model.count(4), 15);
        for (int k = 0; k <= size; k++) {
            call("plan", k);
        }
    }

    private void chooseOne(int mostRows) {
        call("unslant");
        int slants = random.nextInt(4);
        for (int k = 0; k < slants; k++) {
            call("slant", random.nextInt(19) - 9, random.nextInt(19) - 9);
        }
        call("choose", mostRows > 20 ? 1 + random.nextInt(60) : 60 + random.nextInt(100));
        lookAtPlan();
    }

    private void askAround() {
        for (int k = 0; k < 8; k++) {
            call("count", k);
        }
        for (int k = 0; k < 4; k++) {
            call("area", k);
            call("square", random.nextInt(40), random.nextInt(30));
            call("rowOf", random.nextInt(20), random.nextInt(15));
            call("way", random.nextInt(20), random.nextInt(15), random.nextInt(20), random.nextInt(15));
        }
    }

    private void callWild() {
        String[] names = {"corner 3", "clear 1", "area 1", "lay 1", "square 2", "rows 3", "row 2", "rowOf 2", "way 4",
            "turn 2", "plan 1", "swing 2", "slant 2", "choose 1", "yields 3", "bears 3", "reaper 3", "look 1", "wagon 1",
            "count 1"};
        for (int k = 0; k < 4; k++) {
            String[] name = names[random.nextInt(names.length)].split(" ");
            int[] arguments = new int[Integer.parseInt(name[1])];
            for (int j = 0; j < arguments.length; j++) {
                arguments[j] = random.nextInt(3) == 0 ? random.nextInt(8) : WILD[random.nextInt(WILD.length)];
            }
            call(name[0], arguments);
        }
    }

    private void call(String name, int... a) {
        if (calls >= 512) {
            return;
        }
        calls++;
        StringBuilder text = new StringBuilder(name).append('(');
        for (int k = 0; k < a.length; k++) {
            text.append(k == 0 ? "" : ", ").append(a[k]);
        }
        text.append(')');
        String got = ofRows(name, a);
        told.add(text + " " + got);
        check.same(text.toString(), ofModel(name, a), got);
    }

    private String ofRows(String name, int[] a) {
        switch (name) {
            case "corner": return Check.answer(() -> rows.corner(a[0], a[1], a[2]));
            case "clear": return Check.answer(() -> rows.clear(a[0]));
            case "area": return Check.answer(() -> rows.area(a[0]));
            case "lay": return Check.answer(() -> rows.lay(a[0]));
            case "square": return Check.answer(() -> rows.square(a[0], a[1]));
            case "rows": return Check.answer(() -> rows.rows(a[0], a[1], a[2]));
            case "row": return Check.answer(() -> rows.row(a[0], a[1]));
            case "rowOf": return Check.answer(() -> rows.rowOf(a[0], a[1]));
            case "way": return Check.answer(() -> rows.way(a[0], a[1], a[2], a[3]));
            case "turn": return Check.answer(() -> rows.turn(a[0], a[1]));
            case "best": return Check.answer(rows::best);
            case "bound": return Check.answer(rows::bound);
            case "plan": return Check.answer(() -> rows.plan(a[0]));
            case "swing": return Check.answer(() -> rows.swing(a[0], a[1]));
            case "slant": return Check.answer(() -> rows.slant(a[0], a[1]));
            case "unslant": return Check.answer(rows::unslant);
            case "choose": return Check.answer(() -> rows.choose(a[0]));
            case "yields": return Check.answerOf(() -> rows.yields(a[0], a[1], a[2]));
            case "bears": return Check.answerOf(() -> rows.bears(a[0], a[1], a[2]));
            case "reaper": return Check.answerOf(() -> rows.reaper(a[0], a[1], a[2]));
            case "run": return Check.answer(rows::run);
            case "look": return Check.answer(() -> rows.look(a[0]));
            case "wagon": return Check.answer(() -> rows.wagon(a[0]));
            case "count": return Check.answer(() -> rows.count(a[0]));
            default: return "no such call";
        }
    }

    private String ofModel(String name, int[] a) {
        switch (name) {
            case "corner": return Check.answer(() -> model.corner(a[0], a[1], a[2]));
            case "clear": return Check.answer(() -> model.clear(a[0]));
            case "area": return Check.answer(() -> model.area(a[0]));
            case "lay": return Check.answer(() -> model.lay(a[0]));
            case "square": return Check.answer(() -> model.square(a[0], a[1]));
            case "rows": return Check.answer(() -> model.rows(a[0], a[1], a[2]));
            case "row": return Check.answer(() -> model.row(a[0], a[1]));
            case "rowOf": return Check.answer(() -> model.rowOf(a[0], a[1]));
            case "way": return Check.answer(() -> model.way(a[0], a[1], a[2], a[3]));
            case "turn": return Check.answer(() -> model.turn(a[0], a[1]));
            case "best": return Check.answer(model::best);
            case "bound": return Check.answer(model::bound);
            case "plan": return Check.answer(() -> model.plan(a[0]));
            case "swing": return Check.answer(() -> model.swing(a[0], a[1]));
            case "slant": return Check.answer(() -> model.slant(a[0], a[1]));
            case "unslant": return Check.answer(model::unslant);
            case "choose": return Check.answer(() -> model.choose(a[0]));
            case "yields": return Check.answerOf(() -> model.yields(a[0], a[1], a[2]));
            case "bears": return Check.answerOf(() -> model.bears(a[0], a[1], a[2]));
            case "reaper": return Check.answerOf(() -> model.reaper(a[0], a[1], a[2]));
            case "run": return Check.answer(model::run);
            case "look": return Check.answer(() -> model.look(a[0]));
            case "wagon": return Check.answer(() -> model.wagon(a[0]));
            case "count": return Check.answer(() -> model.count(a[0]));
            default: return "no such call here";
        }
    }
}
