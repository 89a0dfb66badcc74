/** Promise 5: fill. */
public final class FillTest {
    private static final Due due = new Due();

    public static void main(String[] args) {
        ringsThatCloseThemselves();
        ringsWithoutInside();
        passedTwice();
        crossing();
        ops();
        due.end();
    }

    private static void ringsThatCloseThemselves() {
        PlanarOverlay o = new PlanarOverlay();
        Shapes.path(o, 2, 2, 6, 2, 6, 5, 2, 5);
        due.yes("last step is added", o.fill(0, 0));
        due.measures("an area", o, 0, 12, 0, 14, 14, 1, 0, 1, 14, 4);
        Shapes.path(o, 2, 2, 6, 2, 6, 5, 2, 5, 2, 2);
        due.yes("the path is a ring", o.fill(1, 0));
        due.same("both rings", o, 0, 1);
        Shapes.path(o, 6, 5, 6, 2, 2, 2, 2, 5);
        due.yes("the other way around", o.fill(2, 0));
        due.same("the other way around", o, 0, 2);
        due.is("lower left cell", o.part(0, 5, 5), 0);
        due.is("upper right cell", o.part(0, 11, 9), 0);
        due.is("left of it", o.part(0, 3, 5), 2);
        due.is("right of it", o.part(0, 13, 5), 2);
        due.is("below it", o.part(0, 5, 3), 2);
        due.is("above it", o.part(0, 5, 11), 2);
        due.is("its rim", o.part(0, 4, 5), 1);
        Shapes.path(o, 0, 0, 12, 0, 12, 12, 0, 12);
        due.yes("the whole square", o.fill(3, 0));
        due.is("all cells", o.measure(3, 0), 144);
        Shapes.path(o, 0, 3, 3, 3, 3, 6, 7, 6, 7, 0, 0, 0);
        due.yes("a bent ring, closed upwards", o.fill(4, 0));
        due.is("its cells", o.measure(4, 0), 9 + 24);
        due.yes("fill keeps the path", o.fill(5, 0));
        due.same("the same filling", o, 4, 5);
    }

    private static void ringsWithoutInside() {
        PlanarOverlay o = new PlanarOverlay();
        o.begin(4, 4);
        due.yes("one corner is a ring", o.fill(0, 0));
        due.is("of one corner", o.measure(0, 4), 0);
        o.go(4, 9);
        due.yes("there and back", o.fill(0, 0));
        due.is("of there and back", o.measure(0, 4), 0);
        Shapes.path(o, 1, 1, 9, 1, 3, 1);
        due.yes("along one row", o.fill(0, 3));
        due.is("of one row", o.measure(0, 4), 0);
        Shapes.area(o, 1, 2, 2, 5, 5);
        o.begin(3, 3);
        due.yes("nothing is taken out", o.fill(1, 2));
        due.is("all left", o.measure(1, 0), 9);
        due.yes("intersection with nothing", o.fill(1, 1));
        due.is("nothing left", o.measure(1, 4), 0);
    }

    private static void passedTwice() {
        PlanarOverlay o = new PlanarOverlay();
        Shapes.path(o, 2, 2, 6, 2, 6, 6, 2, 6, 2, 2, 6, 2, 6, 6, 2, 6);
        due.yes("twice around", o.fill(0, 0));
        due.is("is not inside", o.measure(0, 4), 0);
        Shapes.path(o, 2, 2, 6, 2, 6, 6, 2, 6, 2, 2, 6, 2, 6, 6, 2, 6, 2, 2, 6, 2, 6, 6, 2, 6);
        due.yes("three times around", o.fill(0, 0));
        due.is("is inside", o.measure(0, 0), 16);
        Shapes.path(o, 2, 2, 6, 2, 6, 9, 6, 6, 2, 6);
        due.yes("with a spike", o.fill(1, 0));
        due.same("a spike encloses nothing", o, 0, 1);
    }

    private static void crossing() {
        PlanarOverlay o = new PlanarOverlay();
        Shapes.path(o, 1, 1, 4, 1, 4, 7, 7, 7, 7, 4, 1, 4);
        due.yes("an eight", o.fill(0, 0));
        due.measures("an eight", o, 0, 18, 0, 24, 23, 1, 0, 2, 12, 8);
        Shapes.path(o, 0, 0, 8, 0, 8, 6, 2, 6, 2, 2, 10, 2, 10, 9, 0, 9);
        due.yes("a ring over itself", o.fill(1, 0));
        due.is("cells passed once", o.measure(1, 0), 10 * 9 - 2 * 2 - 6 * 4);
        due.is("passed twice: outside", o.part(1, 9, 7), 2);
        due.is("passed once: inside", o.part(1, 3, 7), 0);
    }

    private static void ops() {
        PlanarOverlay o = new PlanarOverlay();
        for (int layer = 0; layer < 4; layer++) {
            Shapes.area(o, layer, 1, 1, 5, 5);
        }
        Shapes.path(o, 3, 3, 8, 3, 8, 8, 3, 8);
        for (int op = 0; op < 4; op++) {
            due.yes("fill(" + op + ", " + op + ")", o.fill(op, op));
        }
        due.measures("union", o, 0, 37, 0, 28, 28, 1, 0, 1, 28, 8);
        due.measures("intersection", o, 1, 4, 0, 8, 8, 1, 0, 1, 8, 4);
        due.measures("layer without filling", o, 2, 12, 0, 16, 16, 1, 0, 1, 16, 6);
        due.measures("exactly one of them", o, 3, 33, 0, 36, 34, 1, 1, 2, 20, 12);
        due.is("the layer is the first of the two", o.part(2, 3, 3), 0);
        due.is("the filling is the second", o.part(2, 13, 13), 2);
        Shapes.line(o, 4, 0, 4, 12, 4);
        Shapes.path(o, 3, 3, 8, 3, 8, 8, 3, 8);
        due.yes("a line without the filling", o.fill(4, 2));
        due.measures("a cut line", o, 4, 0, 7, 0, 4, 2, 0);
        due.is("its end is kept by the closure", o.part(4, 6, 8), 1);
    }
}
