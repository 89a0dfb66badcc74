/** Promises 2 to 4 and 6: begin, go, draw and point. */
public final class PathTest {
    private static final Due due = new Due();

    public static void main(String[] args) {
        beginReplaces();
        goAnswers();
        drawTakesTheSteps();
        pointAdds();
        due.end();
    }

    private static void beginReplaces() {
        PlanarOverlay o = new PlanarOverlay();
        Shapes.path(o, 1, 1, 4, 1, 4, 4);
        due.no("a refused begin", o.begin(13, 2));
        o.draw(0);
        due.measures("the path before a refused begin", o, 0, 0, 6, 0, 2, 1);
        due.yes("begin anew", o.begin(7, 8));
        o.draw(1);
        due.measures("the path after begin", o, 1, 0, 0, 0, 0, 1);
        o.point(2, 7, 8);
        due.same("begin keeps one corner", o, 1, 2);
        due.yes("go from the new corner", o.go(7, 9));
        due.no("not from the old one", o.go(4, 5));
    }

    private static void goAnswers() {
        PlanarOverlay o = new PlanarOverlay();
        o.begin(4, 4);
        due.no("go to the same corner", o.go(4, 4));
        due.no("go aslant", o.go(5, 5));
        due.no("go aslant down", o.go(0, 3));
        o.draw(0);
        due.measures("after refused steps", o, 0, 0, 0, 0, 0, 1);
        due.yes("go right", o.go(12, 4));
        due.yes("go up", o.go(12, 12));
        due.yes("go left", o.go(0, 12));
        due.yes("go down", o.go(0, 0));
        due.yes("go back", o.go(0, 12));
        o.draw(1);
        due.measures("a way around", o, 1, 0, 40, 0, 2, 1, 0);
    }

    private static void drawTakesTheSteps() {
        PlanarOverlay o = new PlanarOverlay();
        Shapes.path(o, 2, 3, 5, 3, 5, 1);
        due.yes("draw", o.draw(0));
        for (int i = 3; i <= 11; i++) {
            boolean on = i >= 4 && i <= 10;
            due.is("row of the step, atom " + i, o.part(0, i, 6), !on ? 2 : i == 4 ? 1 : 0);
        }
        for (int j = 1; j <= 6; j++) {
            due.is("column of the step, atom " + j, o.part(0, 10, j), j == 1 ? 2 : j == 2 ? 1 : 0);
        }
        due.is("beside the step", o.part(0, 6, 7), 2);
        due.measures("two steps", o, 0, 0, 5, 0, 2, 1, 0, 0, 0, 0);
        Shapes.path(o, 5, 1, 2, 1);
        o.draw(0);
        due.measures("draw adds", o, 0, 0, 8, 0, 2, 1, 0);
        Shapes.path(o, 6, 6, 9, 6, 9, 9, 6, 9);
        o.draw(1);
        due.is("draw does not close the ring", o.measure(1, 1), 9);
        due.is("other layers stay empty", o.measure(2, 4), 0);
        o.draw(2);
        due.same("draw keeps the path", o, 1, 2);
    }

    private static void pointAdds() {
        PlanarOverlay o = new PlanarOverlay();
        due.yes("point(5, 0, 12)", o.point(5, 0, 12));
        due.yes("point(5, 12, 3)", o.point(5, 12, 3));
        due.yes("point(5, 12, 3) again", o.point(5, 12, 3));
        due.is("part of a point", o.part(5, 0, 24), 0);
        due.is("part of another", o.part(5, 24, 6), 0);
        due.is("not turned around", o.part(5, 6, 24), 2);
        due.measures("two points", o, 5, 0, 0, 0, 0, 2, 0, 0, 0, 0);
        due.is("not on another layer", o.measure(4, 4), 0);
        due.no("a point makes no path", o.draw(0));
        Shapes.area(o, 0, 1, 1, 3, 3);
        o.combine(0, 0, 0, 1);
        o.point(0, 2, 2);
        due.same("a point inside of an area", o, 0, 1);
    }
}
