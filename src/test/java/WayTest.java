/** Promises 13 to 15: nearest, route and piece. */
public final class WayTest {
    private static final Due due = new Due();

    public static void main(String[] args) {
        nearestAnswers();
        routeAlongLines();
        routeInAreas();
        routeAfterAnother();
        pieceAnswers();
        due.end();
    }

    private static void nearestAnswers() {
        PlanarOverlay o = new PlanarOverlay();
        o.point(0, 0, 0);
        due.is("over the whole square", o.nearest(0, 12, 12), 24);
        due.is("at the point", o.nearest(0, 0, 0), 0);
        due.is("along x", o.nearest(0, 5, 0), 5);
        due.is("along y", o.nearest(0, 0, 7), 7);
        o.point(0, 12, 9);
        due.is("the other one is nearer", o.nearest(0, 12, 12), 3);
        due.is("to the left and down", o.nearest(0, 10, 5), 6);
        due.is("the first one is nearer", o.nearest(0, 3, 5), 8);
        Shapes.line(o, 1, 2, 6, 8, 6);
        due.is("to a line's middle", o.nearest(1, 5, 9), 3);
        due.is("to a line's end", o.nearest(1, 0, 7), 3);
        Shapes.frame(o, 2, 1, 1, 11, 11, 2);
        due.is("to a frame from inside", o.nearest(2, 6, 5), 2);
        due.is("to a frame from outside", o.nearest(2, 12, 0), 2);
        due.is("in a frame", o.nearest(2, 2, 2), 0);
    }

    private static int at(int x, int y) {
        return 13 * y + x;
    }

    private static void routeAlongLines() {
        PlanarOverlay o = new PlanarOverlay();
        Shapes.line(o, 0, 1, 2, 9, 2, 9, 8, 1, 8);
        due.is("along a line", o.route(0, at(1, 2), at(1, 8)), 22);
        due.is("and back", o.route(0, at(1, 8), at(1, 2)), 22);
        due.is("a part of it", o.route(0, at(3, 2), at(9, 4)), 8);
        due.is("from a point to itself", o.route(0, at(4, 2), at(4, 2)), 0);
        due.is("one edge", o.route(0, at(4, 2), at(5, 2)), 1);
        Shapes.line(o, 0, 5, 2, 5, 8);
        due.is("a shorter way", o.route(0, at(1, 2), at(1, 8)), 14);
        o.point(0, 6, 3);
        due.is("to a point alone", o.route(0, at(6, 2), at(6, 3)), -1);
        due.is("from a point alone to itself", o.route(0, at(6, 3), at(6, 3)), 0);
        o.point(1, 0, 0);
        o.point(1, 1, 0);
        due.is("no edge between", o.route(1, at(0, 0), at(1, 0)), -1);
        Shapes.line(o, 2, 0, 0, 12, 0, 12, 12);
        due.is("from corner to corner", o.route(2, 0, 168), 24);
        due.is("and back again", o.route(2, 168, 0), 24);
        due.is("the lower right corner", o.route(2, 12, 0), 12);
        due.is("not the upper left one", o.route(2, 156, 0), -1);
    }

    private static void routeInAreas() {
        PlanarOverlay o = new PlanarOverlay();
        Shapes.area(o, 0, 0, 0, 12, 12);
        due.is("over the whole square", o.route(0, 0, 168), 24);
        due.is("edges inside of an area", o.route(0, at(3, 4), at(8, 6)), 7);
        Shapes.frame(o, 1, 1, 1, 9, 9, 2);
        due.is("around a hole", o.route(1, at(2, 5), at(8, 5)), 6 + 4);
        Shapes.area(o, 2, 1, 1, 3, 3);
        Shapes.area(o, 2, 3, 3, 5, 5);
        due.is("through a point", o.route(2, at(1, 1), at(5, 5)), 8);
        Shapes.area(o, 2, 7, 7, 8, 8);
        due.is("to another piece", o.route(2, at(5, 5), at(7, 7)), -1);
    }

    /** A longer way asked for before must not lend its points to a shorter one. */
    private static void routeAfterAnother() {
        PlanarOverlay o = new PlanarOverlay();
        Shapes.line(o, 0, 0, 0, 2, 0);
        Shapes.line(o, 1, 0, 0, 1, 0);
        o.point(1, 2, 0);
        due.is("the longer one", o.route(0, at(1, 0), at(2, 0)), 1);
        due.is("the shorter one", o.route(1, at(1, 0), at(2, 0)), -1);
        due.is("the longer one again", o.route(0, at(0, 0), at(2, 0)), 2);
    }

    private static void pieceAnswers() {
        PlanarOverlay o = new PlanarOverlay();
        Shapes.area(o, 0, 1, 1, 4, 3);
        Shapes.area(o, 0, 6, 5, 10, 9);
        o.point(0, 12, 0);
        due.is("the first area", o.piece(0, 1, 1), 6);
        due.is("inside of the first area", o.piece(0, 2, 2), 6);
        due.is("the second area", o.piece(0, 10, 9), 16);
        due.is("a point alone", o.piece(0, 12, 0), 0);
        due.is("outside", o.piece(0, 5, 4), -1);
        Shapes.line(o, 0, 4, 3, 4, 5, 6, 5);
        due.is("joined by a line", o.piece(0, 1, 1), 22);
        due.is("on the line", o.piece(0, 4, 4), 22);
        Shapes.area(o, 0, 10, 9, 12, 12);
        due.is("joined in a point", o.piece(0, 12, 12), 28);
        Shapes.line(o, 1, 0, 12, 12, 12);
        due.is("a line has no cells", o.piece(1, 6, 12), 0);
        Shapes.frame(o, 2, 1, 1, 9, 9, 2);
        Shapes.area(o, 2, 4, 4, 6, 6);
        due.is("a frame", o.piece(2, 2, 2), 48);
        due.is("an island in it", o.piece(2, 5, 5), 4);
        Shapes.area(o, 3, 0, 0, 12, 12);
        due.is("the whole square", o.piece(3, 12, 0), 144);
    }
}
