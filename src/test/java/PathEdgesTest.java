import java.util.Arrays;
import java.util.function.Consumer;

/** Boundary cases of promises 1 to 4 and 6: a new object, begin, go, draw and point. */
public final class PathEdgesTest {
    private static final Due due = new Due();
    private static final Edges edges = new Edges(due);

    public static void main(String[] args) {
        newObjectHasEmptyLayers();
        newObjectHasAnEmptyPath();
        newObjectSharesNothing();
        beginTakesEveryCoordinateInRange();
        beginLeavesOneCorner();
        beginRefusesCoordinatesOutOfRange();
        beginChangesThePathAlone();
        goTakesStepsAlongOneCoordinate();
        goRefusesCoordinatesOutOfRange();
        goRefusesOnAnEmptyPath();
        goTakesTwentyFourCornersAndNoMore();
        goRefusesTheLastCornerAndSlantSteps();
        goChangesThePathAlone();
        drawOfOneCorner();
        drawOfOneStepAlongTheRim();
        drawOfTwentyFourCorners();
        drawOnEveryAtom();
        drawRefusesWhatIsNoLayer();
        drawRefusesAnEmptyPath();
        drawChangesOneLayerAlone();
        pointTakesEveryCoordinateInRange();
        pointOnEveryAtom();
        pointRefusesWhatIsNoLayer();
        pointRefusesCoordinatesOutOfRange();
        pointChangesOneLayerAlone();
        due.end();
    }

    // Promise 1.

    private static void newObjectHasEmptyLayers() {
        for (int layer = 0; layer <= 5; layer++) {
            edges.isEmpty("a new object's layer " + layer, o -> { }, layer);
        }
    }

    private static void newObjectHasAnEmptyPath() {
        for (int n = 0; n <= 12; n++) {
            due.no("go(" + n + ", 0) on a new object", new PlanarOverlay().go(n, 0));
            due.no("go(0, " + n + ") on a new object", new PlanarOverlay().go(0, n));
        }
        for (int layer = 0; layer <= 5; layer++) {
            due.no("draw(" + layer + ") on a new object", new PlanarOverlay().draw(layer));
            for (int op = 0; op <= 3; op++) {
                due.no("fill(" + layer + ", " + op + ") on a new object", new PlanarOverlay().fill(layer, op));
            }
        }
    }

    private static void newObjectSharesNothing() {
        String before = Held.all(o -> { });
        PlanarOverlay full = Held.made(Scene.EVERY_ATOM.calls);
        due.yes("a new object beside a full one", before.equals(Held.all(o -> { })));
        due.is("the full one", full.measure(5, 0), 144);
        due.no("the full one's path", full.go(12, 1));
    }

    // Promise 2.

    private static void beginTakesEveryCoordinateInRange() {
        for (int x = 0; x <= 12; x++) {
            for (int y = 0; y <= 12; y++) {
                int atX = x;
                int atY = y;
                String call = "begin(" + x + ", " + y + ")";
                due.yes(call, new PlanarOverlay().begin(x, y));
                Consumer<PlanarOverlay> calls = o -> o.begin(atX, atY);
                edges.atoms(call + ", drawn", calls.andThen(o -> o.draw(0)), 0, Edges.closureOf(2 * x, 2 * y));
            }
        }
    }

    private static void beginLeavesOneCorner() {
        String oneCorner = Held.path(o -> o.begin(7, 8));
        due.is("corners that one leaves room for", Held.room(o -> o.begin(7, 8)), 23);
        for (Scene scene : Scene.values()) {
            due.yes(scene.named + ": begin(7, 8)", Held.made(scene.calls).begin(7, 8));
            due.yes(scene.named + ": one corner after begin(7, 8)",
                oneCorner.equals(Held.path(scene.calls.andThen(o -> o.begin(7, 8)))));
        }
    }

    private static void beginRefusesCoordinatesOutOfRange() {
        for (int off : Edges.NO_COORDINATE) {
            edges.refuses("begin(" + off + ", 0)", o -> o.begin(off, 0));
            edges.refuses("begin(12, " + off + ")", o -> o.begin(12, off));
            edges.refuses("begin(" + off + ", " + off + ")", o -> o.begin(off, off));
        }
    }

    private static void beginChangesThePathAlone() {
        edges.changesOnlyThePath("begin(0, 12)", o -> o.begin(0, 12));
    }

    // Promise 3.

    /** From every corner to every corner: taken if exactly one coordinate differs. */
    private static void goTakesStepsAlongOneCoordinate() {
        for (int from = 0; from <= 168; from++) {
            for (int to = 0; to <= 168; to++) {
                PlanarOverlay o = new PlanarOverlay();
                o.begin(from % 13, from / 13);
                boolean along = (from % 13 == to % 13) != (from / 13 == to / 13);
                String call = "from (" + from % 13 + ", " + from / 13 + ") go(" + to % 13 + ", " + to / 13 + ")";
                due.is(call, o.go(to % 13, to / 13) ? 1 : 0, along ? 1 : 0);
            }
        }
    }

    /** The other coordinate is the last corner's, so that the one out of range is the only fault. */
    private static void goRefusesCoordinatesOutOfRange() {
        int[][] corners = {{0, 0}, {12, 12}, {5, 12}};
        for (int off : Edges.NO_COORDINATE) {
            for (int[] corner : corners) {
                Consumer<PlanarOverlay> calls = o -> Shapes.path(o, 6, corner[1], corner[0], corner[1]);
                edges.refusesIn(calls, "go(" + off + ", " + corner[1] + ")", o -> o.go(off, corner[1]));
                edges.refusesIn(calls, "go(" + corner[0] + ", " + off + ")", o -> o.go(corner[0], off));
            }
            edges.refuses("go(" + off + ", 12)", o -> o.go(off, 12));
            edges.refuses("go(" + off + ", " + off + ")", o -> o.go(off, off));
        }
    }

    private static void goRefusesOnAnEmptyPath() {
        Consumer<PlanarOverlay> layersAlone = o -> o.point(0, 3, 3);
        for (int n = 0; n <= 12; n++) {
            int at = n;
            edges.refusesIn(layersAlone, "go(" + n + ", 0) on an empty path", o -> o.go(at, 0));
            edges.refusesIn(layersAlone, "go(3, " + n + ") on an empty path", o -> o.go(3, at));
        }
    }

    private static Consumer<PlanarOverlay> cornersOfTheComb(int corners) {
        return o -> Shapes.path(o, Arrays.copyOf(Scene.COMB, 2 * corners));
    }

    private static void goTakesTwentyFourCornersAndNoMore() {
        for (int corners = 1; corners <= 24; corners++) {
            due.is("room after " + corners + " corners", Held.room(cornersOfTheComb(corners)), 24 - corners);
        }
        due.yes("a 24th corner", Held.made(cornersOfTheComb(23)).go(12, 0));
        for (int n = 0; n <= 12; n++) {
            int at = n;
            edges.refusesIn(cornersOfTheComb(24), "a 25th corner (" + n + ", 0)", o -> o.go(at, 0));
            edges.refusesIn(cornersOfTheComb(24), "a 25th corner (12, " + n + ")", o -> o.go(12, at));
        }
        due.yes("a second corner after begin on 24", Held.made(
            cornersOfTheComb(24).andThen(o -> o.begin(3, 3))).go(3, 4));
    }

    private static void goRefusesTheLastCornerAndSlantSteps() {
        Consumer<PlanarOverlay> two = o -> Shapes.path(o, 0, 5, 6, 5);
        int[][] wrongs = {{6, 5}, {7, 6}, {5, 4}, {7, 4}, {5, 6}, {0, 0}, {12, 12}, {0, 12}, {12, 0}};
        for (int[] xy : wrongs) {
            edges.refusesIn(two, "from (6, 5) go(" + xy[0] + ", " + xy[1] + ")", o -> o.go(xy[0], xy[1]));
        }
        due.yes("back to the first corner", Held.made(two).go(0, 5));
    }

    private static void goChangesThePathAlone() {
        edges.changesOnlyThePath("begin(0, 12), go(12, 12)", o -> Shapes.path(o, 0, 12, 12, 12));
    }

    // Promise 4.

    private static void drawOfOneCorner() {
        int[] ends = {0, 12};
        for (int x : ends) {
            for (int y : ends) {
                for (int layer = 0; layer <= 5; layer++) {
                    int on = layer;
                    Consumer<PlanarOverlay> calls = o -> Shapes.line(o, on, x, y);
                    edges.atoms("one corner drawn on " + layer, calls, layer, Edges.closureOf(2 * x, 2 * y));
                }
            }
        }
    }

    private static void drawOfOneStepAlongTheRim() {
        int[][] steps = {{0, 0, 12, 0}, {12, 0, 12, 12}, {12, 12, 0, 12}, {0, 12, 0, 0}, {0, 0, 0, 1}, {12, 12, 11, 12}};
        for (int[] xy : steps) {
            Edges.AtomTest step = Edges.rectangle(
                Math.min(xy[0], xy[2]), Math.min(xy[1], xy[3]), Math.max(xy[0], xy[2]), Math.max(xy[1], xy[3]));
            edges.atoms("a step along the rim", o -> Shapes.line(o, 0, xy), 0, step);
            edges.atoms("two steps, there and back",
                o -> Shapes.line(o, 5, xy[2], xy[3], xy[0], xy[1], xy[2], xy[3]), 5, step);
        }
    }

    /** All steps of the path are drawn, up to the last corner; the step that makes the ring is not. */
    private static void drawOfTwentyFourCorners() {
        Consumer<PlanarOverlay> calls = o -> Shapes.line(o, 0, Scene.COMB);
        due.yes("draw of 24 corners", Held.made(cornersOfTheComb(24)).draw(0));
        edges.atoms("24 corners drawn", calls, 0, (i, j) -> {
            boolean tooth = i % 2 == 0 && i <= 20 && j >= 2;
            boolean above = j == 24 && (i <= 18 ? i % 4 <= 2 : i >= 20);
            boolean below = j == 2 && i >= 2 && i <= 20 && i % 4 != 1;
            return tooth || above || below || i == 0 || i == 24;
        });
    }

    private static void drawOnEveryAtom() {
        for (int layer = 0; layer <= 5; layer++) {
            int on = layer;
            due.yes("draw(" + layer + ") on every atom", Held.made(Scene.EVERY_ATOM.calls).draw(layer));
            edges.changesNothing(Scene.EVERY_ATOM.calls, "draw(" + layer + ") on every atom", o -> o.draw(on));
        }
    }

    private static void drawRefusesWhatIsNoLayer() {
        for (int layer : Edges.NO_LAYER) {
            edges.refuses("draw(" + layer + ")", o -> o.draw(layer));
        }
    }

    private static void drawRefusesAnEmptyPath() {
        for (int layer = 0; layer <= 5; layer++) {
            int on = layer;
            edges.refusesIn(o -> { }, "draw(" + layer + ") of an empty path", o -> o.draw(on));
            edges.refusesIn(o -> o.point(on, 3, 3), "draw(" + layer + ") of an empty path", o -> o.draw(on));
            edges.refusesIn(o -> o.begin(13, 3), "draw(" + layer + ") after a refused begin", o -> o.draw(on));
        }
    }

    private static void drawChangesOneLayerAlone() {
        edges.changesOnly(0, "draw(0)", o -> o.draw(0));
        edges.changesOnly(5, "draw(5)", o -> o.draw(5));
    }

    // Promise 6.

    private static void pointTakesEveryCoordinateInRange() {
        for (int x = 0; x <= 12; x++) {
            for (int y = 0; y <= 12; y++) {
                int atX = x;
                int atY = y;
                int layer = (x + y) % 6;
                String call = "point(" + layer + ", " + x + ", " + y + ")";
                due.yes(call, new PlanarOverlay().point(layer, x, y));
                edges.atoms(call, o -> o.point(layer, atX, atY), layer, Edges.closureOf(2 * x, 2 * y));
            }
        }
    }

    private static void pointOnEveryAtom() {
        due.yes("point(0, 0, 0) on every atom", Held.made(Scene.EVERY_ATOM.calls).point(0, 0, 0));
        edges.changesNothing(Scene.EVERY_ATOM.calls, "point(0, 0, 0) on every atom", o -> o.point(0, 0, 0));
        edges.changesNothing(Scene.EVERY_ATOM.calls, "point(5, 12, 12) on every atom", o -> o.point(5, 12, 12));
        due.yes("a point that is there", Held.made(Scene.MIXED.calls).point(2, 0, 12));
        edges.changesNothing(Scene.MIXED.calls, "a point that is there", o -> o.point(2, 0, 12));
    }

    private static void pointRefusesWhatIsNoLayer() {
        for (int layer : Edges.NO_LAYER) {
            edges.refuses("point(" + layer + ", 0, 0)", o -> o.point(layer, 0, 0));
            edges.refuses("point(" + layer + ", 12, 12)", o -> o.point(layer, 12, 12));
        }
    }

    private static void pointRefusesCoordinatesOutOfRange() {
        for (int off : Edges.NO_COORDINATE) {
            edges.refuses("point(0, " + off + ", 12)", o -> o.point(0, off, 12));
            edges.refuses("point(5, 0, " + off + ")", o -> o.point(5, 0, off));
            edges.refuses("point(2, " + off + ", " + off + ")", o -> o.point(2, off, off));
        }
    }

    private static void pointChangesOneLayerAlone() {
        edges.changesOnly(0, "point(0, 12, 0)", o -> o.point(0, 12, 0));
        edges.changesOnly(5, "point(5, 0, 12)", o -> o.point(5, 0, 12));
    }
}
