/** Promises 1 to 4 and 6: a new object, begin, go, draw and point. */
public final class PathTest {
    private static final Due due = new Due();
    private static final int[] OFF = {-1, 13, 14, 25, Integer.MIN_VALUE, Integer.MAX_VALUE};
    private static final int[] NO_LAYER = {-1, 6, 7, Integer.MIN_VALUE, Integer.MAX_VALUE};

    public static void main(String[] args) {
        newObject();
        beginAnswers();
        beginReplaces();
        goAnswers();
        goStopsAtTwentyFour();
        drawTakesTheSteps();
        drawIsRefused();
        pointAdds();
        due.end();
    }

    private static void newObject() {
        PlanarOverlay o = new PlanarOverlay();
        for (int layer = 0; layer < 6; layer++) {
            due.measures("new", o, layer, 0, 0, 0, 0, 0, 0, 0, 0, 0);
            due.is("new nearest", o.nearest(layer, 6, 6), -1);
            due.is("new part", o.part(layer, 0, 0), 2);
            due.is("new relate", o.relate(layer, 5 - layer), 3 * 65536);
            due.yes("new covers", o.covers(layer, 5 - layer));
        }
        due.no("new go", o.go(0, 1));
        due.no("new draw", o.draw(0));
        due.no("new fill", o.fill(0, 0));
        o.point(0, 3, 3);
        o.begin(1, 1);
        PlanarOverlay other = new PlanarOverlay();
        due.is("another new object", other.nearest(0, 3, 3), -1);
        due.no("another new path", other.draw(0));
    }

    private static void beginAnswers() {
        PlanarOverlay o = new PlanarOverlay();
        for (int off : OFF) {
            due.no("begin(" + off + ", 5)", o.begin(off, 5));
            due.no("begin(5, " + off + ")", o.begin(5, off));
        }
        due.no("the path is still empty", o.draw(0));
        int[] ends = {0, 12};
        for (int x : ends) {
            for (int y : ends) {
                PlanarOverlay fresh = new PlanarOverlay();
                due.yes("begin(" + x + ", " + y + ")", fresh.begin(x, y));
                fresh.draw(0);
                due.is("drawn at (" + x + ", " + y + ")", fresh.part(0, 2 * x, 2 * y), 0);
                due.is("distance to (" + x + ", " + y + ")", fresh.nearest(0, x, y), 0);
            }
        }
    }

    private static void beginReplaces() {
        PlanarOverlay o = new PlanarOverlay();
        Shapes.path(o, 1, 1, 4, 1, 4, 4);
        due.no("a refused begin", o.begin(13, 2));
        o.draw(0);
        due.measures("the path before a refused begin", o, 0, 0, 6, 0, 2, 1);
        due.yes("begin anew", o.begin(7, 8));
        o.draw(1);
        due.measures("the path after begin", o, 1, 0, 0, 0, 0, 1);
        o.point(2, 7, 8);
        due.same("begin keeps one corner", o, 1, 2);
        due.yes("go from the new corner", o.go(7, 9));
        due.no("not from the old one", o.go(4, 5));
    }

    private static void goAnswers() {
        PlanarOverlay o = new PlanarOverlay();
        due.no("go on an empty path", o.go(0, 0));
        o.begin(4, 4);
        for (int off : OFF) {
            due.no("go(" + off + ", 4)", o.go(off, 4));
            due.no("go(4, " + off + ")", o.go(4, off));
        }
        due.no("go to the same corner", o.go(4, 4));
        due.no("go aslant", o.go(5, 5));
        due.no("go aslant down", o.go(0, 3));
        o.draw(0);
        due.measures("after refused steps", o, 0, 0, 0, 0, 0, 1);
        due.yes("go right", o.go(12, 4));
        due.yes("go up", o.go(12, 12));
        due.yes("go left", o.go(0, 12));
        due.yes("go down", o.go(0, 0));
        due.yes("go back", o.go(0, 12));
        o.draw(1);
        due.measures("a way around", o, 1, 0, 40, 0, 2, 1, 0);
    }

    private static void goStopsAtTwentyFour() {
        PlanarOverlay o = new PlanarOverlay();
        o.begin(0, 0);
        for (int n = 2; n <= 24; n++) {
            due.yes("corner " + n, o.go(n % 2 == 0 ? 1 : 0, 0));
        }
        due.no("corner 25", o.go(0, 0));
        due.no("corner 25 elsewhere", o.go(1, 5));
        o.draw(0);
        Shapes.line(o, 1, 0, 0, 1, 0);
        due.same("a full path", o, 0, 1);
        o.begin(0, 0);
        due.yes("go after a full path and begin", o.go(0, 5));
    }

    private static void drawTakesTheSteps() {
        PlanarOverlay o = new PlanarOverlay();
        Shapes.path(o, 2, 3, 5, 3, 5, 1);
        due.yes("draw", o.draw(0));
        for (int i = 3; i <= 11; i++) {
            boolean on = i >= 4 && i <= 10;
            due.is("row of the step, atom " + i, o.part(0, i, 6), !on ? 2 : i == 4 ? 1 : 0);
        }
        for (int j = 1; j <= 6; j++) {
            due.is("column of the step, atom " + j, o.part(0, 10, j), j == 1 ? 2 : j == 2 ? 1 : 0);
        }
        due.is("beside the step", o.part(0, 6, 7), 2);
        due.measures("two steps", o, 0, 0, 5, 0, 2, 1, 0, 0, 0, 0);
        Shapes.path(o, 5, 1, 2, 1);
        o.draw(0);
        due.measures("draw adds", o, 0, 0, 8, 0, 2, 1, 0);
        Shapes.path(o, 6, 6, 9, 6, 9, 9, 6, 9);
        o.draw(1);
        due.is("draw does not close the ring", o.measure(1, 1), 9);
        due.is("other layers stay empty", o.measure(2, 4), 0);
        o.draw(2);
        due.same("draw keeps the path", o, 1, 2);
    }

    private static void drawIsRefused() {
        PlanarOverlay o = new PlanarOverlay();
        due.no("draw an empty path", o.draw(0));
        o.begin(1, 1);
        for (int layer : NO_LAYER) {
            due.no("draw(" + layer + ")", o.draw(layer));
        }
        for (int layer = 0; layer < 6; layer++) {
            due.is("nothing drawn on " + layer, o.measure(layer, 4), 0);
        }
        for (int layer = 0; layer < 6; layer++) {
            due.yes("draw(" + layer + ")", o.draw(layer));
        }
    }

    private static void pointAdds() {
        PlanarOverlay o = new PlanarOverlay();
        for (int layer : NO_LAYER) {
            due.no("point(" + layer + ", 1, 1)", o.point(layer, 1, 1));
        }
        for (int off : OFF) {
            due.no("point(0, " + off + ", 1)", o.point(0, off, 1));
            due.no("point(0, 1, " + off + ")", o.point(0, 1, off));
        }
        for (int layer = 0; layer < 6; layer++) {
            due.is("no point on " + layer, o.measure(layer, 4), 0);
        }
        due.yes("point(5, 0, 12)", o.point(5, 0, 12));
        due.yes("point(5, 12, 3)", o.point(5, 12, 3));
        due.yes("point(5, 12, 3) again", o.point(5, 12, 3));
        due.is("part of a point", o.part(5, 0, 24), 0);
        due.is("part of another", o.part(5, 24, 6), 0);
        due.is("not turned around", o.part(5, 6, 24), 2);
        due.measures("two points", o, 5, 0, 0, 0, 0, 2, 0, 0, 0, 0);
        due.is("not on another layer", o.measure(4, 4), 0);
        due.no("a point makes no path", o.draw(0));
        Shapes.area(o, 0, 1, 1, 3, 3);
        o.combine(0, 0, 0, 1);
        o.point(0, 2, 2);
        due.same("a point inside of an area", o, 0, 1);
    }
}
