/** Promises 7 and 17: combine and covers. */
public final class CombineTest {
    private static final Due due = new Due();

    public static void main(String[] args) {
        twoAreas();
        areaAndLine();
        linesAndPoints();
        alongTheRim();
        intoOneOfThem();
        coversAnswers();
        due.end();
    }

    private static void combineAll(PlanarOverlay o, int a, int b) {
        for (int op = 0; op < 4; op++) {
            due.yes("combine(" + op + ", " + a + ", " + b + ", " + (2 + op) + ")", o.combine(op, a, b, 2 + op));
        }
    }

    private static void twoAreas() {
        PlanarOverlay o = new PlanarOverlay();
        Shapes.area(o, 0, 1, 1, 6, 4);
        Shapes.area(o, 1, 4, 2, 8, 7);
        Shapes.line(o, 2, 0, 12, 12, 12);
        combineAll(o, 0, 1);
        due.measures("union, in place of what was there", o, 2, 31, 0, 26, 26, 1, 0, 1, 26, 8);
        due.measures("intersection", o, 3, 4, 0, 8, 8, 1, 0, 1, 8, 4);
        due.measures("first without second", o, 4, 11, 0, 16, 16, 1, 0, 1, 16, 6);
        due.is("a cell of the first is kept", o.part(4, 3, 3), 0);
        due.is("a cell of the second is not", o.part(4, 15, 13), 2);
        due.measures("exactly one", o, 5, 27, 0, 34, 32, 1, 1, 2, 18, 12);
        due.is("the first is as it was", o.measure(0, 0), 15);
        due.is("the second is as it was", o.measure(1, 0), 20);
        o.combine(2, 1, 0, 5);
        due.measures("second without first", o, 5, 16, 0, 18, 18, 1, 0, 1, 18, 6);
    }

    private static void areaAndLine() {
        PlanarOverlay o = new PlanarOverlay();
        Shapes.area(o, 0, 2, 2, 6, 6);
        Shapes.line(o, 1, 0, 4, 12, 4);
        combineAll(o, 0, 1);
        due.measures("union", o, 2, 16, 8, 16, 18, 1, 0, 1, 16, 4);
        due.measures("intersection", o, 3, 0, 4, 0, 2, 1, 0, 0, 0, 0);
        due.same("the closure heals the cut through an area", o, 4, 0);
        due.same("exactly one, closed", o, 5, 2);
        o.combine(2, 1, 0, 5);
        due.measures("line without area", o, 5, 0, 8, 0, 4, 2, 0);
        due.is("closed at the area", o.part(5, 4, 8), 1);
        due.is("open behind it", o.part(5, 5, 8), 2);
    }

    private static void linesAndPoints() {
        PlanarOverlay o = new PlanarOverlay();
        Shapes.line(o, 0, 3, 1, 3, 9);
        Shapes.line(o, 1, 3, 4, 3, 6, 8, 6);
        combineAll(o, 0, 1);
        due.measures("union", o, 2, 0, 13, 0, 4, 1, 0);
        due.measures("intersection", o, 3, 0, 2, 0, 2, 1, 0);
        due.measures("first without second", o, 4, 0, 6, 0, 4, 2, 0);
        due.measures("exactly one", o, 5, 0, 11, 0, 4, 2, 0);
        PlanarOverlay p = new PlanarOverlay();
        Shapes.line(p, 0, 3, 1, 3, 9);
        p.point(1, 3, 5);
        p.point(1, 7, 7);
        combineAll(p, 0, 1);
        due.measures("line and points", p, 2, 0, 8, 0, 2, 2, 0);
        due.measures("point on a line", p, 3, 0, 0, 0, 0, 1, 0);
        due.same("line without a point of it, closed", p, 4, 0);
        due.same("exactly one of line and points", p, 5, 2);
        p.combine(2, 1, 0, 5);
        due.measures("points without line", p, 5, 0, 0, 0, 0, 1, 0);
        due.is("the other point", p.nearest(5, 7, 7), 0);
    }

    private static void alongTheRim() {
        int[][] lines = {{0, 0, 12, 0}, {0, 0, 0, 12}, {12, 0, 12, 12}, {0, 12, 12, 12}};
        int[][] cuts = {{4, 0, 5, 0}, {0, 4, 0, 5}, {12, 4, 12, 5}, {4, 12, 5, 12}};
        for (int n = 0; n < 4; n++) {
            PlanarOverlay o = new PlanarOverlay();
            Shapes.line(o, 0, lines[n]);
            Shapes.line(o, 1, cuts[n]);
            combineAll(o, 0, 1);
            due.same("a line of the rim with a part of it", o, 2, 0);
            due.same("a part of a line of the rim", o, 3, 1);
            due.measures("a line of the rim, cut", o, 4, 0, 11, 0, 4, 2, 0);
            due.same("a line of the rim, cut as well", o, 5, 4);
        }
        PlanarOverlay p = new PlanarOverlay();
        int[] ends = {0, 12};
        for (int x : ends) {
            for (int y : ends) {
                p.point(0, x, y);
            }
        }
        combineAll(p, 0, 0);
        due.same("corners of the square, union", p, 2, 0);
        due.same("corners of the square, intersection", p, 3, 0);
        due.is("corners of the square without themselves", p.measure(4, 4), 0);
        due.is("corners of the square in exactly one", p.measure(5, 4), 0);
    }

    private static void intoOneOfThem() {
        for (int op = 0; op < 4; op++) {
            PlanarOverlay o = new PlanarOverlay();
            Shapes.frame(o, 0, 1, 1, 7, 7, 2);
            Shapes.area(o, 1, 2, 2, 9, 4);
            Shapes.line(o, 1, 0, 6, 6, 6, 6, 12);
            o.combine(0, 0, 0, 2);
            o.combine(0, 1, 1, 3);
            due.yes("copy and combine", o.combine(op, 0, 1, 4));
            due.yes("into the first", o.combine(op, 2, 1, 2));
            due.yes("into the second", o.combine(op, 0, 3, 3));
            due.same("op " + op + " into the first", o, 2, 4);
            due.same("op " + op + " into the second", o, 3, 4);
            due.yes("with itself", o.combine(op, 0, 0, 5));
            due.is("op " + op + " with itself", o.measure(5, 0), op < 2 ? 32 : 0);
            due.is("op " + op + " with itself, pieces", o.measure(5, 4), op < 2 ? 1 : 0);
            due.yes("all three the same", o.combine(op, 0, 0, 0));
            due.same("op " + op + " into itself", o, 0, 5);
        }
    }

    private static void coversAnswers() {
        PlanarOverlay o = new PlanarOverlay();
        due.yes("nothing covers nothing", o.covers(0, 1));
        Shapes.area(o, 0, 1, 1, 4, 4);
        Shapes.line(o, 1, 1, 1, 4, 1, 4, 4);
        o.point(2, 2, 3);
        due.yes("an area covers nothing", o.covers(0, 5));
        due.no("nothing covers an area", o.covers(5, 0));
        due.yes("an area covers itself", o.covers(0, 0));
        due.yes("an area covers its rim", o.covers(0, 1));
        due.no("a rim does not cover its area", o.covers(1, 0));
        due.yes("an area covers a point", o.covers(0, 2));
        due.no("a line does not cover a point beside it", o.covers(1, 2));
        o.point(1, 12, 12);
        due.no("the last point is looked at", o.covers(0, 1));
        o.point(2, 0, 0);
        due.no("the first point is looked at", o.covers(0, 2));
        o.point(3, 1, 1);
        o.point(3, 2, 1);
        Shapes.line(o, 4, 1, 1, 2, 1);
        due.no("two points do not cover the edge between them", o.covers(3, 4));
        due.yes("an edge covers its ends", o.covers(4, 3));
    }
}
