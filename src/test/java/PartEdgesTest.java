import java.util.function.Consumer;

/** Boundary cases of promises 11 and 16: relate and part. */
public final class PartEdgesTest {
    private static final int MIN = Integer.MIN_VALUE;
    private static final int MAX = Integer.MAX_VALUE;
    private static final int OUTSIDE = 3 * 65536;
    private static final Due due = new Due();
    private static final Edges edges = new Edges(due);

    public static void main(String[] args) {
        partOfNothingAndAll();
        partOutsideOfTheSquare();
        partWhereThereIsNoLayer();
        partOfEachAtomAlone();
        partOfRimEdges();
        partOfPointsByTheirCells();
        partOfPointsByTheirEdges();
        partChangesNothing();
        relateOfNothingAndAll();
        relateCountsEachDimension();
        relateTakesEveryLayer();
        relateWhereThereIsNoLayer();
        relateChangesNothing();
        due.end();
    }

    // Promise 16.

    private static void partOfNothingAndAll() {
        for (int layer = 0; layer <= 5; layer++) {
            String nothing = Held.parts(o -> { }, layer);
            String all = Held.parts(Scene.EVERY_ATOM.calls, layer);
            for (int n = 0; n < 625; n++) {
                boolean rim = n % 25 == 0 || n % 25 == 24 || n / 25 == 0 || n / 25 == 24;
                String at = "(" + layer + ", " + n % 25 + ", " + n / 25 + ")";
                due.is("part" + at + " of nothing", nothing.charAt(n) - '0', 2);
                due.is("part" + at + " of all", all.charAt(n) - '0', rim ? 1 : 0);
            }
        }
    }

    /** Next to the square on all sides, and far off: 25 times -1030792151 wraps around to 1. */
    private static void partOutsideOfTheSquare() {
        int[] off = {-1, 25, 26, -2, -24, 50, 625, -625, 256, 65536, -1030792151, MAX, MIN, MIN + 12, MIN / 2 + 12};
        for (int index : off) {
            for (int n = -1; n <= 25; n++) {
                PlanarOverlay o = Held.made(Scene.EVERY_ATOM.calls);
                due.is("part(3, " + index + ", " + n + ")", o.part(3, index, n), 2);
                due.is("part(3, " + n + ", " + index + ")", o.part(3, n, index), 2);
                due.is("part(0, " + index + ", " + n + ")", o.part(0, index, n), 2);
                due.is("part(5, " + n + ", " + index + ")", o.part(5, n, index), 2);
            }
            edges.answers("part(3, " + index + ", " + index + ")", 2, o -> o.part(3, index, index));
        }
    }

    private static void partWhereThereIsNoLayer() {
        for (int layer : Edges.NO_LAYER) {
            edges.answers("part(" + layer + ", 0, 0)", 2, o -> o.part(layer, 0, 0));
            edges.answers("part(" + layer + ", 11, 11)", 2, o -> o.part(layer, 11, 11));
            edges.answers("part(" + layer + ", 24, 24)", 2, o -> o.part(layer, 24, 24));
            edges.answers("part(" + layer + ", -1, 25)", 2, o -> o.part(layer, -1, 25));
        }
    }

    /** A point alone is interior; a line edge too, and its ends boundary; all faces of a cell are boundary. */
    private static void partOfEachAtomAlone() {
        for (int n = 0; n < 625; n++) {
            int atI = n % 25;
            int atJ = n / 25;
            String parts = Held.parts(o -> Shapes.atom(o, 0, atI, atJ), 0);
            Edges.AtomTest closure = Edges.closureOf(atI, atJ);
            for (int m = 0; m < 625; m++) {
                int wanted = m == n ? 0 : closure.holds(m % 25, m / 25) ? 1 : 2;
                due.is("(" + atI + ", " + atJ + ") alone: part(0, " + m % 25 + ", " + m / 25 + ")", parts.charAt(m) - '0', wanted);
            }
        }
    }

    /** An edge of the rim is a face of one cell alone: with it boundary, without it a line edge. */
    private static void partOfRimEdges() {
        for (int n = 1; n <= 23; n += 2) {
            int[][] rim = {{n, 0, n, 1}, {n, 24, n, 23}, {0, n, 1, n}, {24, n, 23, n}};
            for (int[] at : rim) {
                PlanarOverlay o = new PlanarOverlay();
                Shapes.atom(o, 0, at[0], at[1]);
                due.is("a line edge of the rim", o.part(0, at[0], at[1]), 0);
                Shapes.atom(o, 0, at[2], at[3]);
                due.is("an edge of the rim with its cell", o.part(0, at[0], at[1]), 1);
                Shapes.area(o, 0, 0, 0, 12, 12);
                due.is("an edge of the rim with all", o.part(0, at[0], at[1]), 1);
                due.is("its cell with all", o.part(0, at[2], at[3]), 0);
            }
        }
    }

    /** Each choice of the cells around a point, in the middle and at the rim. */
    private static void partOfPointsByTheirCells() {
        int[] places = {0, 2, 12, 22, 24};
        for (int i : places) {
            for (int j : places) {
                for (int choice = 0; choice < 16; choice++) {
                    pointWithCells(i, j, choice);
                }
            }
        }
    }

    private static void pointWithCells(int i, int j, int choice) {
        PlanarOverlay o = new PlanarOverlay();
        o.point(2, i / 2, j / 2);
        int cells = 0;
        for (int n = 0; n < 4; n++) {
            int cellI = i + (n % 2 == 0 ? -1 : 1);
            int cellJ = j + (n / 2 == 0 ? -1 : 1);
            boolean atom = cellI > 0 && cellI < 24 && cellJ > 0 && cellJ < 24;
            if (atom && (choice >> n) % 2 == 1) {
                Shapes.atom(o, 2, cellI, cellJ);
                cells++;
            }
        }
        due.is("point (" + i + ", " + j + ") with cells " + choice, o.part(2, i, j), cells == 0 || cells == 4 ? 0 : 1);
    }

    private static void partOfPointsByTheirEdges() {
        int[] places = {0, 2, 12, 22, 24};
        for (int i : places) {
            for (int j : places) {
                for (int choice = 0; choice < 16; choice++) {
                    pointWithEdges(i, j, choice);
                }
            }
        }
    }

    private static void pointWithEdges(int i, int j, int choice) {
        PlanarOverlay o = new PlanarOverlay();
        o.point(2, i / 2, j / 2);
        int lines = 0;
        for (int n = 0; n < 4; n++) {
            int edgeI = i + (n == 0 ? -1 : n == 1 ? 1 : 0);
            int edgeJ = j + (n == 2 ? -1 : n == 3 ? 1 : 0);
            boolean atom = edgeI >= 0 && edgeI <= 24 && edgeJ >= 0 && edgeJ <= 24;
            if (atom && (choice >> n) % 2 == 1) {
                Shapes.atom(o, 2, edgeI, edgeJ);
                lines++;
            }
        }
        due.is("point (" + i + ", " + j + ") with edges " + choice, o.part(2, i, j), lines % 2);
    }

    private static void partChangesNothing() {
        edges.changesNothing("part(0, 0, 0)", o -> o.part(0, 0, 0));
        edges.changesNothing("part(5, 24, 24)", o -> o.part(5, 24, 24));
    }

    // Promise 11.

    /** Digit 8 is 3 even where nothing in the square is exterior to both. */
    private static void relateOfNothingAndAll() {
        Consumer<PlanarOverlay> all = o -> Shapes.area(o, 5, 0, 0, 12, 12);
        PlanarOverlay o = Held.made(all);
        due.is("nothing to nothing", o.relate(0, 1), OUTSIDE);
        due.is("nothing to itself", o.relate(0, 0), OUTSIDE);
        due.is("all to nothing", o.relate(5, 0), 3 * 16 + 2 * 1024 + OUTSIDE);
        due.is("nothing to all", o.relate(0, 5), 3 * 4096 + 2 * 16384 + OUTSIDE);
        due.is("all to itself", o.relate(5, 5), 3 + 2 * 256 + OUTSIDE);
        due.is("all to all", Held.made(Scene.EVERY_ATOM.calls).relate(0, 5), 3 + 2 * 256 + OUTSIDE);
    }

    /** The closure of each atom to the layer that has it too, to nothing and to all. */
    private static void relateCountsEachDimension() {
        for (int n = 0; n < 625; n++) {
            int i = n % 25;
            int j = n / 25;
            PlanarOverlay o = new PlanarOverlay();
            Shapes.atom(o, 0, i, j);
            Shapes.atom(o, 1, i, j);
            int dimension = i % 2 + j % 2;
            String of = "(" + i + ", " + j + ")";
            due.is(of + " to the same", o.relate(0, 1), dimension + 1 + dimension * 256 + OUTSIDE);
            due.is(of + " to nothing", o.relate(0, 2), (dimension + 1) * 16 + dimension * 1024 + OUTSIDE);
            due.is("nothing to " + of, o.relate(2, 0), (dimension + 1) * 4096 + dimension * 16384 + OUTSIDE);
        }
    }

    /** Layer n has n + 1 points, so that two different layers always differ by exterior points of one. */
    private static void relateTakesEveryLayer() {
        PlanarOverlay o = new PlanarOverlay();
        for (int layer = 0; layer <= 5; layer++) {
            for (int x = 0; x <= layer; x++) {
                o.point(layer, 2 * x, 12);
            }
        }
        for (int a = 0; a <= 5; a++) {
            for (int b = 0; b <= 5; b++) {
                int wanted = 1 + (a > b ? 16 : a < b ? 4096 : 0) + OUTSIDE;
                due.is("relate(" + a + ", " + b + ")", o.relate(a, b), wanted);
            }
        }
    }

    private static void relateWhereThereIsNoLayer() {
        for (int layer : Edges.NO_LAYER) {
            edges.answers("relate(" + layer + ", 0)", -1, o -> o.relate(layer, 0));
            edges.answers("relate(5, " + layer + ")", -1, o -> o.relate(5, layer));
            edges.answers("relate(" + layer + ", " + layer + ")", -1, o -> o.relate(layer, layer));
        }
    }

    private static void relateChangesNothing() {
        edges.changesNothing("relate(0, 5)", o -> o.relate(0, 5));
        edges.changesNothing("relate(3, 3)", o -> o.relate(3, 3));
    }
}
