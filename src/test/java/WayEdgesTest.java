import java.util.function.Consumer;

/** Boundary cases of promises 13 to 15: nearest, route and piece. */
public final class WayEdgesTest {
    private static final int MIN = Integer.MIN_VALUE;
    private static final int MAX = Integer.MAX_VALUE;
    private static final Due due = new Due();
    private static final Edges edges = new Edges(due);

    public static void main(String[] args) {
        nearestOfNothing();
        nearestOfEveryAtom();
        nearestOfOnePoint();
        nearestTakesEveryLayer();
        nearestWhereThereIsNoLayer();
        nearestOfCoordinatesOutOfRange();
        routeOfNothing();
        routeOfEveryAtom();
        routeToThePointItself();
        routeOverOneEdge();
        theLongestRoute();
        noRouteAroundTheSquare();
        noRouteFromOrToAPointThatIsMissing();
        routeTakesEveryLayer();
        routeWhereThereIsNoLayer();
        routeOfNumbersOutOfRange();
        pieceOfNothing();
        pieceOfEveryAtom();
        pieceOfEachAtomAlone();
        piecesDoNotJoinAroundTheSquare();
        piecesJoinInAPoint();
        pieceTakesEveryLayer();
        pieceWhereThereIsNoLayer();
        pieceOfCoordinatesOutOfRange();
        questionsChangeNothing();
        due.end();
    }

    private static PlanarOverlay everyAtom() {
        return Held.made(Scene.EVERY_ATOM.calls);
    }

    /** Layer n has the edge from (n, 0) to (n, 1) and what more the test needs. */
    private static PlanarOverlay edgeOnEachLayer() {
        PlanarOverlay o = new PlanarOverlay();
        for (int layer = 0; layer <= 5; layer++) {
            Shapes.line(o, layer, layer, 0, layer, 1);
        }
        return o;
    }

    // Promise 13.

    private static void nearestOfNothing() {
        for (int n = 0; n < 169; n++) {
            due.is("nearest of nothing", new PlanarOverlay().nearest(n % 6, n % 13, n / 13), -1);
        }
        PlanarOverlay emptied = everyAtom();
        emptied.combine(2, 0, 0, 0);
        due.is("nearest of an emptied layer", emptied.nearest(0, 0, 0), -1);
        due.is("nearest of another one", emptied.nearest(1, 0, 0), 0);
    }

    private static void nearestOfEveryAtom() {
        PlanarOverlay o = everyAtom();
        for (int n = 0; n < 169; n++) {
            due.is("nearest of all", o.nearest(n % 6, n % 13, n / 13), 0);
        }
    }

    private static void nearestOfOnePoint() {
        for (int to = 0; to < 169; to++) {
            PlanarOverlay o = new PlanarOverlay();
            o.point(5, to % 13, to / 13);
            for (int from = 0; from < 169; from++) {
                int distance = Math.abs(from % 13 - to % 13) + Math.abs(from / 13 - to / 13);
                due.is("from " + from + " to " + to, o.nearest(5, from % 13, from / 13), distance);
            }
        }
    }

    private static void nearestTakesEveryLayer() {
        PlanarOverlay o = edgeOnEachLayer();
        for (int layer = 0; layer <= 5; layer++) {
            due.is("nearest(" + layer + ", 12, 12)", o.nearest(layer, 12, 12), 23 - layer);
        }
    }

    private static void nearestWhereThereIsNoLayer() {
        for (int layer : Edges.NO_LAYER) {
            edges.answers("nearest(" + layer + ", 0, 0)", -1, o -> o.nearest(layer, 0, 0));
            edges.answers("nearest(" + layer + ", 12, 12)", -1, o -> o.nearest(layer, 12, 12));
        }
    }

    private static void nearestOfCoordinatesOutOfRange() {
        for (int off : Edges.NO_COORDINATE) {
            edges.answers("nearest(0, " + off + ", 0)", -1, o -> o.nearest(0, off, 0));
            edges.answers("nearest(5, 12, " + off + ")", -1, o -> o.nearest(5, 12, off));
            edges.answers("nearest(3, " + off + ", " + off + ")", -1, o -> o.nearest(3, off, off));
        }
    }

    // Promise 14.

    private static void routeOfNothing() {
        for (int n = 0; n <= 168; n++) {
            due.is("route(" + n % 6 + ", " + n + ", " + n + ") of nothing", new PlanarOverlay().route(n % 6, n, n), -1);
            due.is("route(" + n % 6 + ", 0, " + n + ") of nothing", new PlanarOverlay().route(n % 6, 0, n), -1);
        }
    }

    /** From every point to every point: no way is shorter than the distance, and none need be longer. */
    private static void routeOfEveryAtom() {
        for (int from = 0; from <= 168; from++) {
            PlanarOverlay o = everyAtom();
            for (int to = 0; to <= 168; to++) {
                int distance = Math.abs(from % 13 - to % 13) + Math.abs(from / 13 - to / 13);
                due.is("route(0, " + from + ", " + to + ") of all", o.route(0, from, to), distance);
            }
        }
    }

    private static void routeToThePointItself() {
        for (int n = 0; n <= 168; n++) {
            PlanarOverlay o = new PlanarOverlay();
            o.point(0, n % 13, n / 13);
            due.is("route(0, " + n + ", " + n + ") of a point alone", o.route(0, n, n), 0);
        }
    }

    private static void routeOverOneEdge() {
        for (int n = 0; n <= 155; n++) {
            PlanarOverlay o = new PlanarOverlay();
            o.point(1, n % 13, n / 13);
            o.point(1, n % 13, n / 13 + 1);
            due.is("no edge from " + n + " to " + (n + 13), o.route(1, n, n + 13), -1);
            Shapes.line(o, 0, n % 13, n / 13, n % 13, n / 13 + 1);
            due.is("one edge from " + n + " to " + (n + 13), o.route(0, n, n + 13), 1);
            due.is("one edge from " + (n + 13) + " to " + n, o.route(0, n + 13, n), 1);
        }
        for (int n = 0; n <= 167; n++) {
            PlanarOverlay o = new PlanarOverlay();
            o.point(0, n % 13, n / 13);
            o.point(0, (n + 1) % 13, (n + 1) / 13);
            due.is("no edge from " + n + " to " + (n + 1), o.route(0, n, n + 1), -1);
            boolean sameRow = n % 13 != 12;
            if (sameRow) {
                Shapes.line(o, 0, n % 13, n / 13, n % 13 + 1, n / 13);
            }
            due.is("from " + n + " to " + (n + 1), o.route(0, n, n + 1), sameRow ? 1 : -1);
        }
    }

    /** To and fro over all 13 rows: a way over all 169 points. */
    private static void rows(PlanarOverlay o) {
        for (int y = 0; y <= 12; y++) {
            Shapes.line(o, 0, 0, y, 12, y);
            if (y < 12) {
                Shapes.line(o, 0, y % 2 == 0 ? 12 : 0, y, y % 2 == 0 ? 12 : 0, y + 1);
            }
        }
    }

    private static void theLongestRoute() {
        PlanarOverlay o = Held.made(WayEdgesTest::rows);
        due.is("over all points", o.route(0, 0, 168), 168);
        due.is("and back", o.route(0, 168, 0), 168);
        due.is("over all but one", o.route(0, 1, 168), 167);
        due.is("from row to row", o.route(0, 0, 13), 25);
        due.is("at the turn", o.route(0, 12, 25), 1);
        due.measures("the way", o, 0, 0, 168, 0, 2, 1, 0, 0, 0, 0);
    }

    private static void noRouteAroundTheSquare() {
        PlanarOverlay o = new PlanarOverlay();
        Shapes.line(o, 0, 0, 0, 0, 12);
        Shapes.line(o, 0, 12, 0, 12, 12);
        for (int y = 0; y <= 12; y++) {
            due.is("from right to left in row " + y, o.route(0, 13 * y + 12, 13 * y), -1);
            due.is("from left to right in row " + y, o.route(0, 13 * y, 13 * y + 12), -1);
        }
        for (int y = 0; y < 12; y++) {
            due.is("from the end of row " + y + " to the next", o.route(0, 13 * y + 12, 13 * y + 13), -1);
        }
        Shapes.line(o, 1, 0, 0, 12, 0);
        Shapes.line(o, 1, 0, 12, 12, 12);
        due.is("from the lower to the upper side", o.route(1, 6, 162), -1);
    }

    private static void noRouteFromOrToAPointThatIsMissing() {
        Consumer<PlanarOverlay> rim = o -> Shapes.line(o, 0, 0, 0, 12, 0, 12, 12, 0, 12, 0, 0);
        PlanarOverlay o = Held.made(rim);
        for (int n = 0; n <= 168; n++) {
            boolean missing = n % 13 % 12 != 0 && n / 13 % 12 != 0;
            due.is("from the rim to " + n, o.route(0, 0, n) < 0 ? 1 : 0, missing ? 1 : 0);
            due.is("from " + n + " to the rim", o.route(0, n, 168) < 0 ? 1 : 0, missing ? 1 : 0);
        }
        due.is("from a missing point to itself", o.route(0, 14, 14), -1);
        due.is("around the rim", o.route(0, 0, 168), 24);
    }

    private static void routeTakesEveryLayer() {
        for (int layer = 0; layer <= 5; layer++) {
            for (int from = 0; from <= 5; from++) {
                int wanted = from == layer ? 1 : -1;
                due.is("route(" + layer + ", " + from + ")", edgeOnEachLayer().route(layer, from, from + 13), wanted);
            }
        }
    }

    private static void routeWhereThereIsNoLayer() {
        for (int layer : Edges.NO_LAYER) {
            edges.answers("route(" + layer + ", 0, 0)", -1, o -> o.route(layer, 0, 0));
            edges.answers("route(" + layer + ", 0, 168)", -1, o -> o.route(layer, 0, 168));
        }
    }

    /** Of 1116691498 and -1116691497 the rows are so far out that their places wrap around into row 0. */
    private static void routeOfNumbersOutOfRange() {
        int[] off = {-1, 169, 170, -13, -168, 337, 256, 65536, 1116691498, -1116691497, MAX, MIN, MIN + 1, MIN / 2};
        for (int number : off) {
            edges.answers("route(0, " + number + ", 0)", -1, o -> o.route(0, number, 0));
            edges.answers("route(5, 168, " + number + ")", -1, o -> o.route(5, 168, number));
            edges.answers("route(3, " + number + ", " + number + ")", -1, o -> o.route(3, number, number));
        }
    }

    // Promise 15.

    private static void pieceOfNothing() {
        for (int n = 0; n <= 168; n++) {
            due.is("piece of nothing", new PlanarOverlay().piece(n % 6, n % 13, n / 13), -1);
        }
    }

    private static void pieceOfEveryAtom() {
        PlanarOverlay o = everyAtom();
        for (int n = 0; n <= 168; n++) {
            due.is("piece of all", o.piece(n % 6, n % 13, n / 13), 144);
        }
    }

    private static void pieceOfEachAtomAlone() {
        for (int n = 0; n < 625; n++) {
            int i = n % 25;
            int j = n / 25;
            PlanarOverlay o = new PlanarOverlay();
            Shapes.atom(o, 0, i, j);
            Edges.AtomTest closure = Edges.closureOf(i, j);
            for (int point = 0; point <= 168; point++) {
                int x = point % 13;
                int y = point / 13;
                int wanted = closure.holds(2 * x, 2 * y) ? i % 2 * (j % 2) : -1;
                due.is("(" + i + ", " + j + ") alone: piece(0, " + x + ", " + y + ")", o.piece(0, x, y), wanted);
            }
        }
    }

    private static void piecesDoNotJoinAroundTheSquare() {
        PlanarOverlay o = new PlanarOverlay();
        Shapes.area(o, 0, 0, 0, 1, 12);
        Shapes.area(o, 0, 10, 0, 12, 12);
        due.is("the left strip", o.piece(0, 0, 6), 12);
        due.is("the right strip", o.piece(0, 12, 6), 24);
        Shapes.area(o, 1, 0, 0, 12, 1);
        Shapes.area(o, 1, 0, 10, 12, 12);
        due.is("the lower strip", o.piece(1, 6, 0), 12);
        due.is("the upper strip", o.piece(1, 6, 12), 24);
    }

    private static void piecesJoinInAPoint() {
        PlanarOverlay o = new PlanarOverlay();
        for (int n = 0; n <= 11; n++) {
            Shapes.area(o, 0, n, n, n + 1, n + 1);
            Shapes.area(o, 1, n, 11 - n, n + 1, 12 - n);
        }
        due.is("cells from corner to corner", o.piece(0, 0, 0), 12);
        due.is("from the other end", o.piece(0, 12, 12), 12);
        due.is("falling", o.piece(1, 0, 12), 12);
        due.is("beside it", o.piece(1, 0, 0), -1);
    }

    private static void pieceTakesEveryLayer() {
        PlanarOverlay o = new PlanarOverlay();
        for (int layer = 0; layer <= 5; layer++) {
            Shapes.area(o, layer, 0, 0, 1, layer + 1);
        }
        for (int layer = 0; layer <= 5; layer++) {
            due.is("piece(" + layer + ", 0, 0)", o.piece(layer, 0, 0), layer + 1);
            due.is("piece(" + layer + ", 1, " + (layer + 2) + ")", o.piece(layer, 1, layer + 2), -1);
        }
    }

    private static void pieceWhereThereIsNoLayer() {
        for (int layer : Edges.NO_LAYER) {
            edges.answers("piece(" + layer + ", 0, 0)", -1, o -> o.piece(layer, 0, 0));
            edges.answers("piece(" + layer + ", 12, 12)", -1, o -> o.piece(layer, 12, 12));
        }
    }

    private static void pieceOfCoordinatesOutOfRange() {
        for (int off : Edges.NO_COORDINATE) {
            edges.answers("piece(0, " + off + ", 0)", -1, o -> o.piece(0, off, 0));
            edges.answers("piece(5, 12, " + off + ")", -1, o -> o.piece(5, 12, off));
            edges.answers("piece(3, " + off + ", " + off + ")", -1, o -> o.piece(3, off, off));
        }
    }

    private static void questionsChangeNothing() {
        for (int layer = 0; layer <= 5; layer++) {
            int of = layer;
            edges.changesNothing("nearest(" + layer + ", 12, 12)", o -> o.nearest(of, 12, 12));
            edges.changesNothing("route(" + layer + ", 0, 168)", o -> o.route(of, 0, 168));
            edges.changesNothing("route(" + layer + ", 0, 0)", o -> o.route(of, 0, 0));
            edges.changesNothing("piece(" + layer + ", 12, 12)", o -> o.piece(of, 12, 12));
            edges.changesNothing("piece(" + layer + ", 0, 0)", o -> o.piece(of, 0, 0));
        }
    }
}
