import java.util.Arrays;
import java.util.function.Consumer;

/** Boundary cases of promise 5: fill, with those of the ring and the filling. */
public final class FillEdgesTest {
    private static final Due due = new Due();
    private static final Edges edges = new Edges(due);

    /** 24 corners of which the last is the first again. */
    private static final int[] CLOSED_STAIRS = {
        0, 0, 1, 0, 1, 1, 2, 1, 2, 2, 3, 2, 3, 3, 4, 3, 4, 4, 5, 4, 5, 5, 6, 5, 6, 6, 7, 6, 7, 7, 8, 7,
        8, 8, 9, 8, 9, 9, 10, 9, 10, 12, 5, 12, 0, 12, 0, 0};

    public static void main(String[] args) {
        fillTakesEveryLayerAndOp();
        fillOfAnEmptyLayer();
        fillOfEveryAtom();
        fillWithEveryAtom();
        fillWithOneCorner();
        fillWithoutCellsInside();
        fillOfEachCell();
        fillOfRowsAndColumnsFromRimToRim();
        fillOfTwentyFourCornersAndOneStepMore();
        fillOfTwentyFourCornersThatEndAtTheFirst();
        fillCountsThePasses();
        fillNeedsARing();
        fillRefusesAnEmptyPath();
        fillRefusesWhatIsNoLayer();
        fillRefusesWhatIsNoOp();
        fillChangesOneLayerAlone();
        due.end();
    }

    private static final Consumer<PlanarOverlay> CORNER_CELL = o -> Shapes.path(o, 11, 11, 12, 11, 12, 12, 11, 12);

    private static final Edges.AtomTest IN_CORNER_CELL = Edges.rectangle(11, 11, 12, 12);

    /** What stays of the whole square if the cell in its upper right corner is taken out. */
    private static final Edges.AtomTest ALL_BUT_CORNER_CELL = (i, j) -> i <= 22 || j <= 22;

    private static Consumer<PlanarOverlay> filled(Consumer<PlanarOverlay> calls, int layer, int op) {
        return calls.andThen(o -> o.fill(layer, op));
    }

    private static Consumer<PlanarOverlay> everyAtomAnd(Consumer<PlanarOverlay> path) {
        return Scene.EVERY_ATOM.calls.andThen(path);
    }

    private static void fillTakesEveryLayerAndOp() {
        for (int layer = 0; layer <= 5; layer++) {
            for (int op = 0; op <= 3; op++) {
                due.yes("fill(" + layer + ", " + op + ")", Held.made(CORNER_CELL).fill(layer, op));
            }
            edges.atoms("filled on " + layer, filled(CORNER_CELL, layer, 0), layer, IN_CORNER_CELL);
        }
    }

    private static void fillOfAnEmptyLayer() {
        edges.atoms("nothing or the cell", filled(CORNER_CELL, 3, 0), 3, IN_CORNER_CELL);
        edges.isEmpty("nothing and the cell", filled(CORNER_CELL, 3, 1), 3);
        edges.isEmpty("nothing without the cell", filled(CORNER_CELL, 3, 2), 3);
        edges.atoms("nothing or else the cell", filled(CORNER_CELL, 3, 3), 3, IN_CORNER_CELL);
    }

    private static void fillOfEveryAtom() {
        Consumer<PlanarOverlay> calls = everyAtomAnd(CORNER_CELL);
        edges.hasEveryAtom("all or the cell", filled(calls, 3, 0), 3);
        edges.atoms("all and the cell", filled(calls, 3, 1), 3, IN_CORNER_CELL);
        edges.atoms("all without the cell", filled(calls, 3, 2), 3, ALL_BUT_CORNER_CELL);
        edges.atoms("all or else the cell", filled(calls, 3, 3), 3, ALL_BUT_CORNER_CELL);
    }

    private static void fillWithEveryAtom() {
        Consumer<PlanarOverlay> square = o -> Shapes.path(o, 0, 0, 12, 0, 12, 12, 0, 12);
        Consumer<PlanarOverlay> full = everyAtomAnd(square);
        edges.hasEveryAtom("nothing or all", filled(square, 0, 0), 0);
        edges.isEmpty("nothing and all", filled(square, 0, 1), 0);
        edges.isEmpty("nothing without all", filled(square, 0, 2), 0);
        edges.hasEveryAtom("nothing or else all", filled(square, 0, 3), 0);
        edges.hasEveryAtom("all or all", filled(full, 5, 0), 5);
        edges.hasEveryAtom("all and all", filled(full, 5, 1), 5);
        edges.isEmpty("all without all", filled(full, 5, 2), 5);
        edges.isEmpty("all or else all", filled(full, 5, 3), 5);
    }

    /** One corner is a ring, for its last and its first corner are the same; nothing is inside. */
    private static void fillWithOneCorner() {
        int[] places = {0, 6, 12};
        for (int x : places) {
            for (int y : places) {
                Consumer<PlanarOverlay> corner = o -> o.begin(x, y);
                Consumer<PlanarOverlay> full = everyAtomAnd(corner);
                for (int op = 0; op <= 3; op++) {
                    due.yes("one corner, op " + op, Held.made(full).fill(1, op));
                    edges.isEmpty("one corner with nothing, op " + op, filled(corner, 1, op), 1);
                    edges.atoms("one corner with all, op " + op, filled(full, 1, op), 1, op == 1 ? (i, j) -> false : (i, j) -> true);
                }
            }
        }
    }

    private static void fillWithoutCellsInside() {
        int[][] flat = {{0, 0, 12, 0}, {12, 12, 12, 0}, {0, 3, 12, 3, 5, 3}, {4, 4, 4, 9, 4, 4}, {0, 0, 0, 12, 12, 12, 0, 12}};
        for (int[] xy : flat) {
            Consumer<PlanarOverlay> path = o -> Shapes.path(o, xy);
            due.yes("a ring without an inside", Held.made(path).fill(0, 0));
            for (int op = 0; op <= 3; op++) {
                edges.isEmpty("a ring without an inside, op " + op, filled(path, 0, op), 0);
            }
        }
    }

    private static void fillOfEachCell() {
        for (int x = 0; x <= 11; x++) {
            for (int y = 0; y <= 11; y++) {
                int atX = x;
                int atY = y;
                edges.atoms("the cell at (" + x + ", " + y + ")", o -> Shapes.area(o, 0, atX, atY, atX + 1, atY + 1), 0,
                    Edges.closureOf(2 * x + 1, 2 * y + 1));
            }
        }
    }

    private static void fillOfRowsAndColumnsFromRimToRim() {
        for (int n = 0; n <= 11; n++) {
            int at = n;
            edges.atoms("row " + n, o -> Shapes.area(o, 0, 0, at, 12, at + 1), 0, Edges.rectangle(0, n, 12, n + 1));
            edges.atoms("column " + n, o -> Shapes.area(o, 0, at, 12, at + 1, 0), 0, Edges.rectangle(n, 0, n + 1, 12));
        }
    }

    /** Whether an atom is a cell of the comb or a face of one. */
    private static boolean inComb(int i, int j) {
        boolean tooth = i <= 18 ? i % 4 <= 2 : i >= 20;
        return j <= 2 || tooth;
    }

    private static void fillOfTwentyFourCornersAndOneStepMore() {
        Consumer<PlanarOverlay> comb = o -> Shapes.path(o, Scene.COMB);
        due.is("corners left", Held.room(comb), 0);
        due.yes("fill of 24 corners", Held.made(comb).fill(0, 0));
        edges.atoms("24 corners and one step more", filled(comb, 0, 0), 0, FillEdgesTest::inComb);
    }

    private static void fillOfTwentyFourCornersThatEndAtTheFirst() {
        Consumer<PlanarOverlay> stairs = o -> Shapes.path(o, CLOSED_STAIRS);
        due.is("corners left", Held.room(stairs), 0);
        due.yes("fill of 24 corners, the last one the first", Held.made(stairs).fill(0, 0));
        PlanarOverlay o = Held.made(filled(stairs, 0, 0));
        due.measures("closed stairs", o, 0, 75, 0, 44, 44, 1, 0, 1, 44, 22);
        for (int n = 0; n <= 9; n++) {
            due.is("last cell of the stairs in row " + n, o.part(0, 2 * n + 1, 2 * n + 1), 0);
            due.is("behind it", o.part(0, 2 * n + 3, 2 * n + 1), 2);
        }
    }

    /** Around a cell n times: its left edge is passed n times. */
    private static void fillCountsThePasses() {
        int[] once = {0, 11, 1, 11, 1, 12, 0, 12};
        for (int rounds = 1; rounds <= 6; rounds++) {
            int[] xy = new int[8 * rounds];
            Arrays.setAll(xy, n -> once[n % 8]);
            boolean inside = rounds % 2 == 1;
            edges.atoms(rounds + " times around", filled(o -> Shapes.path(o, xy), 0, 0), 0,
                (i, j) -> inside && i <= 2 && j >= 22);
        }
    }

    /** A path from (6, 6) to every point: a ring if one coordinate at least is the same. */
    private static void fillNeedsARing() {
        for (int x = 0; x <= 12; x++) {
            for (int y = 0; y <= 12; y++) {
                int atX = x;
                int atY = y;
                Consumer<PlanarOverlay> path = o -> Shapes.path(o, 6, 6, atX, 6, atX, atY);
                due.is("a path from (6, 6) to (" + x + ", " + y + ")", Held.made(path).fill(0, 0) ? 1 : 0, x == 6 || y == 6 ? 1 : 0);
            }
        }
        int[] open = Scene.COMB.clone();
        open[46] = 12;
        open[47] = 5;
        Consumer<PlanarOverlay> noRing = Scene.MIXED.calls.andThen(o -> Shapes.path(o, open));
        for (int op = 0; op <= 3; op++) {
            int by = op;
            edges.refusesIn(Scene.OPEN.calls, "fill(0, " + op + ") of an open path", o -> o.fill(0, by));
            edges.refusesIn(noRing, "fill(5, " + op + ") of 24 corners without a ring", o -> o.fill(5, by));
        }
    }

    private static void fillRefusesAnEmptyPath() {
        Consumer<PlanarOverlay> layersAlone = o -> o.point(5, 3, 3);
        for (int layer = 0; layer <= 5; layer++) {
            for (int op = 0; op <= 3; op++) {
                int on = layer;
                int by = op;
                edges.refusesIn(layersAlone, "fill(" + layer + ", " + op + ") of an empty path", o -> o.fill(on, by));
            }
        }
    }

    private static void fillRefusesWhatIsNoLayer() {
        for (int layer : Edges.NO_LAYER) {
            edges.refuses("fill(" + layer + ", 0)", o -> o.fill(layer, 0));
            edges.refuses("fill(" + layer + ", 3)", o -> o.fill(layer, 3));
        }
    }

    private static void fillRefusesWhatIsNoOp() {
        for (int op : Edges.NO_OP) {
            edges.refuses("fill(0, " + op + ")", o -> o.fill(0, op));
            edges.refuses("fill(5, " + op + ")", o -> o.fill(5, op));
            edges.refuses("fill(-1, " + op + ")", o -> o.fill(-1, op));
        }
    }

    private static void fillChangesOneLayerAlone() {
        for (int op = 0; op <= 3; op++) {
            int by = op;
            edges.changesOnly(0, "fill(0, " + op + ")", o -> o.fill(0, by));
            edges.changesOnly(5, "fill(5, " + op + ")", o -> o.fill(5, by));
        }
    }
}
