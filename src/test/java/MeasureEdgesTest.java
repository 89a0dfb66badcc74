import java.util.function.Consumer;

/** Boundary cases of promise 12: measure. */
public final class MeasureEdgesTest {
    private static final int MIN = Integer.MIN_VALUE;
    private static final int MAX = Integer.MAX_VALUE;
    private static final Due due = new Due();
    private static final Edges edges = new Edges(due);

    public static void main(String[] args) {
        measureOfNothing();
        measureOfEveryAtom();
        measureOfEachAtomAlone();
        measureAlongTheRim();
        mostPieces();
        piecesDoNotJoinAroundTheSquare();
        mostHoles();
        holesEndBeforeTheRim();
        rimOpenedAtOneEdge();
        oneCellMissing();
        framesOfEachWidth();
        noRingWithoutCells();
        mostRings();
        ringsWhereCellsMeet();
        aLongRing();
        measureTakesEveryLayer();
        measureOfOtherThings();
        measureWhereThereIsNoLayer();
        measureChangesNothing();
        due.end();
    }

    private static void measureOfNothing() {
        for (int layer = 0; layer <= 5; layer++) {
            due.measures("nothing", new PlanarOverlay(), layer, 0, 0, 0, 0, 0, 0, 0, 0, 0);
            PlanarOverlay emptied = Held.made(Scene.EVERY_ATOM.calls);
            emptied.combine(2, layer, layer, layer);
            due.measures("emptied", emptied, layer, 0, 0, 0, 0, 0, 0, 0, 0, 0);
        }
    }

    private static void measureOfEveryAtom() {
        for (int layer = 0; layer <= 5; layer++) {
            due.measures("all", Held.made(Scene.EVERY_ATOM.calls), layer, 144, 0, 48, 48, 1, 0, 1, 48, 4);
        }
    }

    private static void measureOfEachAtomAlone() {
        for (int n = 0; n < 625; n++) {
            PlanarOverlay o = new PlanarOverlay();
            Shapes.atom(o, 0, n % 25, n / 25);
            String what = "(" + n % 25 + ", " + n / 25 + ") alone";
            switch (n % 25 % 2 + n / 25 % 2) {
                case 0: due.measures(what, o, 0, 0, 0, 0, 0, 1, 0, 0, 0, 0); break;
                case 1: due.measures(what, o, 0, 0, 1, 0, 2, 1, 0, 0, 0, 0); break;
                default: due.measures(what, o, 0, 1, 0, 4, 4, 1, 0, 1, 4, 4); break;
            }
        }
    }

    private static void measureAlongTheRim() {
        int[][] sides = {{0, 0, 12, 0}, {12, 0, 12, 12}, {12, 12, 0, 12}, {0, 12, 0, 0}};
        for (int[] side : sides) {
            PlanarOverlay o = new PlanarOverlay();
            Shapes.line(o, 0, side);
            due.measures("a side of the square", o, 0, 0, 12, 0, 2, 1, 0, 0, 0, 0);
        }
        int[][] strips = {{0, 0, 12, 1}, {11, 0, 12, 12}, {0, 11, 12, 12}, {0, 0, 1, 12}};
        for (int[] strip : strips) {
            PlanarOverlay o = new PlanarOverlay();
            Shapes.area(o, 0, strip[0], strip[1], strip[2], strip[3]);
            due.measures("a strip along the rim", o, 0, 12, 0, 26, 26, 1, 0, 1, 26, 4);
        }
    }

    private static void mostPieces() {
        PlanarOverlay o = new PlanarOverlay();
        for (int n = 0; n < 169; n++) {
            o.point(0, n % 13, n / 13);
        }
        due.measures("all points", o, 0, 0, 0, 0, 0, 169, 0, 0, 0, 0);
    }

    /** The end of a row and the begin of the next one lie at opposite sides of the square. */
    private static void piecesDoNotJoinAroundTheSquare() {
        PlanarOverlay o = new PlanarOverlay();
        Shapes.line(o, 0, 0, 0, 0, 12);
        Shapes.line(o, 0, 12, 0, 12, 12);
        due.measures("left and right side", o, 0, 0, 24, 0, 4, 2, 0, 0, 0, 0);
        Shapes.line(o, 1, 0, 0, 12, 0);
        Shapes.line(o, 1, 0, 12, 12, 12);
        due.measures("lower and upper side", o, 1, 0, 24, 0, 4, 2, 0, 0, 0, 0);
        Shapes.area(o, 2, 0, 0, 1, 12);
        Shapes.area(o, 2, 11, 0, 12, 12);
        due.measures("left and right strip", o, 2, 24, 0, 52, 52, 2, 0, 2, 26, 8);
        Shapes.area(o, 3, 0, 0, 12, 1);
        Shapes.area(o, 3, 0, 11, 12, 12);
        due.measures("lower and upper strip", o, 3, 24, 0, 52, 52, 2, 0, 2, 26, 8);
        o.point(4, 12, 3);
        o.point(4, 0, 4);
        due.measures("points at both sides", o, 4, 0, 0, 0, 0, 2, 0, 0, 0, 0);
    }

    private static void mostHoles() {
        PlanarOverlay o = new PlanarOverlay();
        for (int n = 0; n <= 12; n++) {
            Shapes.line(o, 0, n, 0, n, 12);
            Shapes.line(o, 0, 0, n, 12, n);
        }
        due.measures("all lines", o, 0, 0, 312, 0, 44, 1, 144, 0, 0, 0);
    }

    private static void holesEndBeforeTheRim() {
        PlanarOverlay o = new PlanarOverlay();
        Shapes.line(o, 0, 0, 0, 12, 0, 12, 12, 0, 12, 0, 0);
        due.measures("the rim", o, 0, 0, 48, 0, 0, 1, 1, 0, 0, 0);
        Shapes.line(o, 1, 1, 0, 1, 12);
        due.measures("a line from rim to rim", o, 1, 0, 12, 0, 2, 1, 0, 0, 0, 0);
        for (int x = 0; x <= 11; x += 11) {
            for (int y = 0; y <= 11; y += 11) {
                PlanarOverlay p = new PlanarOverlay();
                Shapes.line(p, 0, x, y, x + 1, y, x + 1, y + 1, x, y + 1, x, y);
                due.measures("around a cell in a corner", p, 0, 0, 4, 0, 0, 1, 1, 0, 0, 0);
            }
        }
    }

    /** One edge taken from the rim lets what is inside of it reach index 0 or 24: no hole is left. */
    private static void rimOpenedAtOneEdge() {
        for (int n = 0; n <= 11; n++) {
            int[][] gaps = {{n, 0, n + 1, 0}, {n, 12, n + 1, 12}, {0, n, 0, n + 1}, {12, n, 12, n + 1}};
            for (int[] gap : gaps) {
                PlanarOverlay o = new PlanarOverlay();
                Shapes.line(o, 0, 0, 0, 12, 0, 12, 12, 0, 12, 0, 0);
                Shapes.line(o, 1, gap);
                o.combine(2, 0, 1, 0);
                due.measures("the rim without an edge", o, 0, 0, 47, 0, 2, 1, 0, 0, 0, 0);
            }
        }
    }

    /** A hole of one cell; but a notch if it is at the rim, for its open edge has index 0 or 24. */
    private static void oneCellMissing() {
        for (int n = 0; n < 144; n++) {
            int x = n % 12;
            int y = n / 12;
            PlanarOverlay o = new PlanarOverlay();
            Shapes.area(o, 0, 0, 0, 12, 12);
            Shapes.area(o, 1, x, y, x + 1, y + 1);
            o.combine(2, 0, 1, 0);
            String what = "all but the cell at (" + x + ", " + y + ")";
            int sides = (x % 11 == 0 ? 1 : 0) + (y % 11 == 0 ? 1 : 0);
            switch (sides) {
                case 0: due.measures(what, o, 0, 143, 0, 52, 52, 1, 1, 2, 48, 8); break;
                case 1: due.measures(what, o, 0, 143, 0, 50, 50, 1, 0, 1, 50, 8); break;
                default: due.measures(what, o, 0, 143, 0, 48, 48, 1, 0, 1, 48, 6); break;
            }
        }
    }

    private static void framesOfEachWidth() {
        for (int width = 1; width <= 5; width++) {
            PlanarOverlay o = new PlanarOverlay();
            Shapes.frame(o, 0, 0, 0, 12, 12, width);
            int inner = 12 - 2 * width;
            int around = 48 + 4 * inner;
            due.measures("a frame along the rim", o, 0, 144 - inner * inner, 0, around, around, 1, 1, 2, 48, 8);
        }
    }

    private static void noRingWithoutCells() {
        PlanarOverlay o = new PlanarOverlay();
        Shapes.line(o, 0, 3, 3, 9, 3, 9, 9, 3, 9, 3, 3);
        o.point(1, 5, 5);
        for (int layer = 0; layer <= 2; layer++) {
            due.is("rings of layer " + layer, o.measure(layer, 6), 0);
            due.is("the longest of no rings", o.measure(layer, 7), 0);
            due.is("corners of no rings", o.measure(layer, 8), 0);
        }
        due.is("a ring elsewhere", Held.made(Scene.EVERY_ATOM.calls).measure(0, 7), 48);
    }

    /** Every other cell: all of them meet in points, and each is a ring of its own. */
    private static void checkerboard(PlanarOverlay o) {
        for (int n = 0; n < 12; n += 2) {
            Shapes.area(o, 0, n, 0, n + 1, 12);
        }
        for (int n = 0; n < 12; n += 2) {
            Shapes.path(o, 0, n, 12, n, 12, n + 1, 0, n + 1);
            o.fill(0, 3);
        }
    }

    private static void mostRings() {
        due.measures("a checkerboard", Held.made(MeasureEdgesTest::checkerboard), 0, 72, 0, 288, 167, 1, 50, 72, 4, 288);
    }

    private static void ringsWhereCellsMeet() {
        PlanarOverlay o = new PlanarOverlay();
        Shapes.area(o, 0, 0, 0, 1, 1);
        Shapes.area(o, 0, 1, 1, 2, 2);
        due.measures("two cells in the lower left corner", o, 0, 2, 0, 8, 7, 1, 0, 2, 4, 8);
        Shapes.area(o, 1, 11, 10, 12, 11);
        Shapes.area(o, 1, 10, 11, 11, 12);
        due.measures("two cells in the upper right corner", o, 1, 2, 0, 8, 7, 1, 0, 2, 4, 8);
        Shapes.area(o, 0, 1, 0, 2, 1);
        due.measures("three cells", o, 0, 3, 0, 8, 8, 1, 0, 1, 8, 6);
        Shapes.area(o, 0, 0, 1, 1, 2);
        due.measures("four cells", o, 0, 4, 0, 8, 8, 1, 0, 1, 8, 4);
    }

    private static void aLongRing() {
        PlanarOverlay o = Held.made(p -> Shapes.path(p, Scene.COMB));
        o.fill(0, 0);
        due.measures("the comb", o, 0, 89, 0, 158, 158, 1, 0, 1, 158, 24);
        Shapes.area(o, 1, 0, 0, 12, 1);
        for (int n = 0; n < 12; n += 2) {
            Shapes.area(o, 1, n, 0, n + 1, 12);
        }
        due.measures("a comb of six teeth", o, 1, 78, 0, 158, 158, 1, 0, 1, 158, 26);
    }

    private static void measureTakesEveryLayer() {
        PlanarOverlay o = new PlanarOverlay();
        for (int layer = 0; layer <= 5; layer++) {
            Shapes.area(o, layer, 0, 0, layer + 1, 1);
        }
        for (int layer = 0; layer <= 5; layer++) {
            int around = 2 * layer + 4;
            due.measures("cells in a row", o, layer, layer + 1, 0, around, around, 1, 0, 1, around, 4);
        }
    }

    private static void measureOfOtherThings() {
        int[] off = {-1, 9, 10, -8, 256, 262, 65536, MAX, MIN, MIN + 6};
        for (int what : off) {
            edges.answers("measure(0, " + what + ")", -1, o -> o.measure(0, what));
            edges.answers("measure(5, " + what + ")", -1, o -> o.measure(5, what));
            edges.answers("measure(6, " + what + ")", -1, o -> o.measure(6, what));
        }
    }

    private static void measureWhereThereIsNoLayer() {
        for (int layer : Edges.NO_LAYER) {
            for (int what = 0; what <= 8; what++) {
                int of = what;
                edges.answers("measure(" + layer + ", " + what + ")", -1, o -> o.measure(layer, of));
            }
        }
    }

    private static void measureChangesNothing() {
        for (int what = 0; what <= 8; what++) {
            int of = what;
            Consumer<PlanarOverlay> asked = o -> {
                for (int layer = 0; layer <= 5; layer++) {
                    o.measure(layer, of);
                }
            };
            edges.changesNothing("measure of " + what, asked);
        }
    }
}
