/** Promise 12: measure. */
public final class MeasureTest {
    private static final Due due = new Due();

    public static void main(String[] args) {
        areas();
        areasThatMeetInAPoint();
        holes();
        holesThatMeetInAPoint();
        cutOffAtTheRim();
        openToTheRim();
        lines();
        mixed();
        measuredAgain();
        due.end();
    }

    private static void areas() {
        PlanarOverlay o = new PlanarOverlay();
        due.measures("nothing", o, 0, 0, 0, 0, 0, 0, 0, 0, 0, 0);
        Shapes.area(o, 0, 3, 4, 4, 5);
        due.measures("a cell", o, 0, 1, 0, 4, 4, 1, 0, 1, 4, 4);
        Shapes.area(o, 0, 6, 4, 9, 6);
        due.measures("two areas", o, 0, 7, 0, 14, 14, 2, 0, 2, 10, 8);
        Shapes.area(o, 0, 4, 4, 6, 5);
        due.measures("joined", o, 0, 9, 0, 16, 16, 1, 0, 1, 16, 6);
        Shapes.area(o, 1, 0, 0, 12, 12);
        due.measures("the whole square", o, 1, 144, 0, 48, 48, 1, 0, 1, 48, 4);
        Shapes.path(o, 1, 1, 8, 1, 8, 3, 3, 3, 3, 5, 8, 5, 8, 7, 1, 7);
        o.fill(2, 0);
        due.measures("a bent area", o, 2, 32, 0, 36, 36, 1, 0, 1, 36, 8);
    }

    private static void areasThatMeetInAPoint() {
        PlanarOverlay o = new PlanarOverlay();
        Shapes.area(o, 0, 2, 2, 4, 4);
        Shapes.area(o, 0, 4, 4, 7, 7);
        due.measures("rising", o, 0, 13, 0, 20, 19, 1, 0, 2, 12, 8);
        Shapes.area(o, 1, 2, 4, 4, 6);
        Shapes.area(o, 1, 4, 2, 6, 4);
        due.measures("falling", o, 1, 8, 0, 16, 15, 1, 0, 2, 8, 8);
        for (int n = 0; n < 12; n++) {
            Shapes.area(o, 2, n, n, n + 1, n + 1);
        }
        due.measures("a staircase of cells", o, 2, 12, 0, 48, 37, 1, 0, 12, 4, 48);
        Shapes.area(o, 3, 2, 2, 6, 3);
        Shapes.area(o, 3, 2, 3, 3, 6);
        Shapes.area(o, 3, 3, 6, 6, 7);
        Shapes.area(o, 3, 6, 3, 7, 6);
        due.measures("a ring of areas closed by points", o, 3, 13, 0, 32, 29, 1, 1, 3, 16, 14);
    }

    private static void holes() {
        PlanarOverlay o = new PlanarOverlay();
        Shapes.frame(o, 0, 1, 1, 9, 9, 2);
        due.measures("a frame", o, 0, 48, 0, 48, 48, 1, 1, 2, 32, 8);
        Shapes.area(o, 0, 4, 4, 5, 5);
        due.measures("an island in the hole", o, 0, 49, 0, 52, 52, 2, 1, 3, 32, 12);
        o.point(0, 6, 6);
        due.measures("a point in the hole", o, 0, 49, 0, 52, 52, 3, 1, 3, 32, 12);
        Shapes.line(o, 0, 3, 6, 7, 6);
        due.measures("a line through the hole", o, 0, 49, 4, 52, 52, 2, 2, 3, 32, 12);
        Shapes.frame(o, 1, 0, 0, 12, 12, 1);
        due.measures("a frame along the rim", o, 1, 44, 0, 88, 88, 1, 1, 2, 48, 8);
        Shapes.frame(o, 2, 0, 0, 3, 3, 1);
        Shapes.frame(o, 2, 6, 6, 12, 12, 2);
        due.measures("two frames", o, 2, 8 + 32, 0, 16 + 32, 16 + 32, 2, 2, 4, 24, 16);
    }

    private static void holesThatMeetInAPoint() {
        PlanarOverlay o = new PlanarOverlay();
        Shapes.area(o, 0, 1, 1, 6, 6);
        Shapes.path(o, 2, 2, 3, 2, 3, 3, 2, 3);
        o.fill(0, 2);
        Shapes.path(o, 3, 3, 4, 3, 4, 4, 3, 4);
        o.fill(0, 2);
        due.measures("two holes, one ring around both", o, 0, 23, 0, 28, 27, 1, 2, 2, 20, 12);
        Shapes.area(o, 1, 1, 1, 6, 6);
        Shapes.path(o, 1, 1, 2, 1, 2, 2, 1, 2);
        o.fill(1, 2);
        Shapes.path(o, 2, 2, 3, 2, 3, 3, 2, 3);
        o.fill(1, 2);
        due.measures("a hole at a notch", o, 1, 23, 0, 24, 23, 1, 1, 1, 24, 10);
    }

    private static void cutOffAtTheRim() {
        PlanarOverlay o = new PlanarOverlay();
        Shapes.line(o, 0, 0, 3, 3, 3, 3, 0);
        Shapes.line(o, 0, 9, 12, 9, 9, 12, 9);
        due.measures("corners of the square cut off", o, 0, 0, 12, 0, 4, 2, 0, 0, 0, 0);
        Shapes.line(o, 1, 0, 0, 0, 3, 3, 3, 3, 0, 0, 0);
        due.is("closed on the rim, nothing outside at it", o.measure(1, 5), 1);
        Shapes.area(o, 2, 0, 0, 12, 12);
        Shapes.path(o, 0, 5, 7, 5, 7, 7, 0, 7);
        o.fill(2, 2);
        due.measures("a notch from the left is no hole", o, 2, 130, 0, 62, 62, 1, 0, 1, 62, 8);
        for (int n = 0; n < 3; n++) {
            o.combine(0, 2, 2, 3);
            o.turn(3, n);
            due.is("a notch, turned by " + n, o.measure(3, 5), 0);
        }
        o.turn(2, 2);
        o.turn(2, 1);
        due.is("a notch from above", o.measure(2, 5), 0);
    }

    /** What lies outside of the lines has one edge of the rim alone, or none if that is drawn too. */
    private static void openToTheRim() {
        int[][] lines = {
            {3, 0, 3, 1, 4, 1, 4, 0}, {0, 3, 1, 3, 1, 4, 0, 4},
            {3, 12, 3, 11, 4, 11, 4, 12}, {12, 3, 11, 3, 11, 4, 12, 4}};
        for (int[] xy : lines) {
            PlanarOverlay o = new PlanarOverlay();
            Shapes.line(o, 0, xy);
            due.measures("open to the rim", o, 0, 0, 3, 0, 2, 1, 0);
            Shapes.line(o, 0, xy[0], xy[1], xy[6], xy[7]);
            due.measures("closed by the rim", o, 0, 0, 4, 0, 0, 1, 1);
            o.combine(2, 0, 0, 0);
            Shapes.line(o, 0, xy[0], xy[1], xy[6], xy[7]);
            due.measures("an edge of the rim", o, 0, 0, 1, 0, 2, 1, 0);
        }
    }

    private static void lines() {
        PlanarOverlay o = new PlanarOverlay();
        o.point(0, 3, 3);
        due.measures("a point", o, 0, 0, 0, 0, 0, 1, 0, 0, 0, 0);
        Shapes.line(o, 1, 1, 5, 9, 5);
        Shapes.line(o, 1, 5, 1, 5, 9);
        due.measures("a cross", o, 1, 0, 16, 0, 4, 1, 0, 0, 0, 0);
        Shapes.line(o, 2, 2, 2, 6, 2, 6, 6, 2, 6, 2, 2);
        due.measures("a line without ends", o, 2, 0, 16, 0, 0, 1, 1, 0, 0, 0);
        Shapes.line(o, 2, 4, 2, 4, 6);
        due.measures("a line across it", o, 2, 0, 20, 0, 2, 1, 2, 0, 0, 0);
        for (int n = 0; n <= 12; n++) {
            Shapes.line(o, 3, n, 0, n, 12);
            Shapes.line(o, 3, 0, n, 12, n);
        }
        due.measures("the whole grid", o, 3, 0, 312, 0, 44, 1, 144, 0, 0, 0);
    }

    private static void mixed() {
        PlanarOverlay o = new PlanarOverlay();
        Shapes.area(o, 0, 2, 2, 5, 5);
        Shapes.line(o, 0, 0, 3, 12, 3, 12, 5);
        due.measures("a line across an area", o, 0, 9, 11, 12, 14, 1, 0, 1, 12, 4);
        Shapes.line(o, 3, 2, 2, 5, 2);
        Shapes.line(o, 3, 0, 4, 9, 4);
        Shapes.line(o, 3, 4, 0, 4, 9);
        Shapes.area(o, 3, 2, 2, 6, 6);
        due.measures("lines from all sides of an area", o, 3, 16, 10, 16, 20, 1, 0, 1, 16, 4);
        Shapes.line(o, 1, 2, 2, 5, 2);
        Shapes.area(o, 1, 2, 2, 5, 5);
        due.is("a line along the rim is no line any more", o.measure(1, 1), 0);
        Shapes.area(o, 2, 0, 0, 2, 2);
        Shapes.area(o, 2, 4, 4, 6, 6);
        Shapes.line(o, 2, 2, 2, 4, 2, 4, 4);
        due.measures("areas joined by a line", o, 2, 8, 4, 16, 16, 1, 0, 2, 8, 8);
    }

    private static void measuredAgain() {
        PlanarOverlay o = new PlanarOverlay();
        Shapes.frame(o, 0, 1, 1, 9, 9, 2);
        for (int what = 8; what >= 0; what--) {
            o.measure(0, what);
        }
        due.measures("measuring again", o, 0, 48, 0, 48, 48, 1, 1, 2, 32, 8);
    }
}
