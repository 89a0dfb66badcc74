import java.util.function.Consumer;

/** Boundary cases of promises 8 to 10: grow, shrink and turn. */
public final class MoveEdgesTest {
    private static final int MIN = Integer.MIN_VALUE;
    private static final int MAX = Integer.MAX_VALUE;
    private static final Due due = new Due();
    private static final Edges edges = new Edges(due);

    public static void main(String[] args) {
        growByNothing();
        growOfNothingAndAll();
        growIsCutByTheSquare();
        growReachesTheFarRim();
        growRefusesOtherReaches();
        growRefusesWhatIsNoLayer();
        growChangesOneLayerAlone();
        shrinkByNothing();
        shrinkOfNothingAndAll();
        shrinkLosesTheRim();
        shrinkOfAreasThatJustFit();
        shrinkLooksAtEveryAtomAround();
        shrinkRefusesOtherReaches();
        shrinkRefusesWhatIsNoLayer();
        shrinkChangesOneLayerAlone();
        turnOfEachAtom();
        turnOfNothingAndAll();
        turnRefusesOtherWays();
        turnRefusesWhatIsNoLayer();
        turnChangesOneLayerAlone();
        due.end();
    }

    private static Consumer<PlanarOverlay> nothing() {
        return o -> { };
    }

    // Promise 8.

    private static void growByNothing() {
        for (int layer = 0; layer <= 5; layer++) {
            int on = layer;
            due.yes("grow(" + layer + ", 0)", new PlanarOverlay().grow(layer, 0));
            edges.changesNothing("grow(" + layer + ", 0)", o -> o.grow(on, 0));
        }
    }

    private static void growOfNothingAndAll() {
        for (int r = 0; r <= 12; r++) {
            int by = r;
            due.yes("grow(0, " + r + ") of nothing", new PlanarOverlay().grow(0, r));
            edges.isEmpty("nothing grown by " + r, o -> o.grow(0, by), 0);
            due.yes("grow(5, " + r + ") of all", Held.made(Scene.EVERY_ATOM.calls).grow(5, r));
            edges.hasEveryAtom("all grown by " + r, Scene.EVERY_ATOM.calls.andThen(o -> o.grow(5, by)), 5);
        }
    }

    /** The closure of an atom at the rim and in the middle, by every reach. */
    private static void growIsCutByTheSquare() {
        int[] places = {0, 1, 12, 13, 23, 24};
        for (int r = 0; r <= 12; r++) {
            for (int i : places) {
                for (int j : places) {
                    grownAtom(i, j, r);
                }
            }
        }
    }

    private static void grownAtom(int atomI, int atomJ, int r) {
        Consumer<PlanarOverlay> calls = o -> Shapes.atom(o, 4, atomI, atomJ);
        edges.atoms("(" + atomI + ", " + atomJ + ") grown by " + r, calls.andThen(o -> o.grow(4, r)), 4,
            (i, j) -> Math.abs(i - atomI) <= 2 * r + atomI % 2 && Math.abs(j - atomJ) <= 2 * r + atomJ % 2);
    }

    private static void growReachesTheFarRim() {
        int[] ends = {0, 12};
        for (int x : ends) {
            for (int y : ends) {
                edges.hasEveryAtom("a corner of the square by 12", o -> {
                    o.point(0, x, y);
                    o.grow(0, 12);
                }, 0);
                edges.atoms("a corner of the square by 11", o -> {
                    o.point(0, x, y);
                    o.grow(0, 11);
                }, 0, (i, j) -> Math.abs(i - 2 * x) <= 22 && Math.abs(j - 2 * y) <= 22);
            }
        }
        edges.hasEveryAtom("the middle by 6", o -> {
            o.point(0, 6, 6);
            o.grow(0, 6);
        }, 0);
    }

    /** Of the last ones a shift, a byte, or twice the number, as it wraps around, would be in range. */
    private static void growRefusesOtherReaches() {
        int[] off = {-1, 13, 14, 24, -12, 257, 65537, MAX, MIN, MIN + 1, MIN / 2, MAX / 2 + 1};
        for (int r : off) {
            edges.refuses("grow(0, " + r + ")", o -> o.grow(0, r));
            edges.refuses("grow(5, " + r + ")", o -> o.grow(5, r));
        }
    }

    private static void growRefusesWhatIsNoLayer() {
        for (int layer : Edges.NO_LAYER) {
            edges.refuses("grow(" + layer + ", 1)", o -> o.grow(layer, 1));
            edges.refuses("grow(" + layer + ", 12)", o -> o.grow(layer, 12));
        }
        edges.refuses("grow(6, 13)", o -> o.grow(6, 13));
    }

    private static void growChangesOneLayerAlone() {
        edges.changesOnly(0, "grow(0, 12)", o -> o.grow(0, 12));
        edges.changesOnly(5, "grow(5, 1)", o -> o.grow(5, 1));
    }

    // Promise 9.

    private static void shrinkByNothing() {
        for (int layer = 0; layer <= 5; layer++) {
            int on = layer;
            due.yes("shrink(" + layer + ", 0)", new PlanarOverlay().shrink(layer, 0));
            edges.changesNothing("shrink(" + layer + ", 0)", o -> o.shrink(on, 0));
        }
    }

    private static void shrinkOfNothingAndAll() {
        for (int r = 0; r <= 6; r++) {
            int by = r;
            due.yes("shrink(0, " + r + ") of nothing", new PlanarOverlay().shrink(0, r));
            edges.isEmpty("nothing shrunk by " + r, o -> o.shrink(0, by), 0);
            due.yes("shrink(5, " + r + ") of all", Held.made(Scene.EVERY_ATOM.calls).shrink(5, r));
            edges.atoms("all shrunk by " + r, Scene.EVERY_ATOM.calls.andThen(o -> o.shrink(5, by)), 5,
                Edges.rectangle(r, r, 12 - r, 12 - r));
        }
    }

    private static void shrinkLosesTheRim() {
        for (int r = 1; r <= 6; r++) {
            int by = r;
            Consumer<PlanarOverlay> rim = o -> Shapes.line(o, 0, 0, 0, 12, 0, 12, 12, 0, 12, 0, 0);
            edges.isEmpty("the rim shrunk by " + r, rim.andThen(o -> o.shrink(0, by)), 0);
            edges.isEmpty("a point of the rim shrunk by " + r, o -> {
                o.point(0, 0, 6);
                o.shrink(0, by);
            }, 0);
        }
    }

    /** An area of the width 2 r shrinks to a point, one that is a cell narrower to nothing. */
    private static void shrinkOfAreasThatJustFit() {
        for (int r = 1; r <= 6; r++) {
            for (int x = 0; x + 2 * r <= 12; x++) {
                shrunkArea(x, 12 - 2 * r, 2 * r, 2 * r, r);
                shrunkArea(x, 0, 2 * r - 1, 2 * r, r);
                shrunkArea(0, x, 2 * r, 2 * r - 1, r);
            }
            shrunkArea(0, 0, 2 * r, 12, r);
            shrunkArea(12 - 2 * r, 0, 2 * r, 12, r);
            shrunkArea(0, 0, 12, 2 * r, r);
        }
    }

    private static void shrunkArea(int x, int y, int width, int height, int r) {
        edges.atoms(width + " by " + height + " at (" + x + ", " + y + ") shrunk by " + r, o -> {
            Shapes.area(o, 3, x, y, x + width, y + height);
            o.shrink(3, r);
        }, 3, Edges.rectangle(x + r, y + r, x + width - r, y + height - r));
    }

    /** Each cell once is missing of the whole square. */
    private static void shrinkLooksAtEveryAtomAround() {
        for (int n = 0; n < 144; n++) {
            int i = 2 * (n % 12) + 1;
            int j = 2 * (n / 12) + 1;
            for (int r = 0; r <= 6; r++) {
                missingCell(i, j, r);
            }
        }
    }

    private static void missingCell(int missI, int missJ, int r) {
        Consumer<PlanarOverlay> calls = o -> {
            Shapes.area(o, 1, 0, 0, 12, 12);
            Shapes.path(o, missI / 2, missJ / 2, missI / 2 + 1, missJ / 2, missI / 2 + 1, missJ / 2 + 1, missI / 2, missJ / 2 + 1);
            o.fill(1, 2);
        };
        edges.atoms("shrunk by " + r + " with a hole at (" + missI + ", " + missJ + ")", calls.andThen(o -> o.shrink(1, r)), 1,
            (i, j) -> {
                // Where the missing cell is at the rim, its faces there are missing as well.
                int nearI = missI == 1 ? Math.max(0, i - 1) : missI == 23 ? Math.max(0, 23 - i) : Math.abs(i - missI);
                int nearJ = missJ == 1 ? Math.max(0, j - 1) : missJ == 23 ? Math.max(0, 23 - j) : Math.abs(j - missJ);
                boolean inFrame = i >= 2 * r && i <= 24 - 2 * r && j >= 2 * r && j <= 24 - 2 * r;
                return inFrame && (nearI > 2 * r || nearJ > 2 * r);
            });
    }

    private static void shrinkRefusesOtherReaches() {
        int[] off = {-1, 7, 8, 12, 13, -6, 257, 65537, MAX, MIN, MIN + 1, MIN / 2, MAX / 2 + 1};
        for (int r : off) {
            edges.refuses("shrink(0, " + r + ")", o -> o.shrink(0, r));
            edges.refuses("shrink(5, " + r + ")", o -> o.shrink(5, r));
        }
    }

    private static void shrinkRefusesWhatIsNoLayer() {
        for (int layer : Edges.NO_LAYER) {
            edges.refuses("shrink(" + layer + ", 1)", o -> o.shrink(layer, 1));
            edges.refuses("shrink(" + layer + ", 6)", o -> o.shrink(layer, 6));
        }
        edges.refuses("shrink(6, 7)", o -> o.shrink(6, 7));
    }

    private static void shrinkChangesOneLayerAlone() {
        edges.changesOnly(0, "shrink(0, 6)", o -> o.shrink(0, 6));
        edges.changesOnly(3, "shrink(3, 1)", o -> o.shrink(3, 1));
        edges.changesOnly(5, "shrink(5, 1)", o -> o.shrink(5, 1));
    }

    // Promise 10.

    private static void turnOfEachAtom() {
        for (int i = 0; i <= 24; i++) {
            for (int j = 0; j <= 24; j++) {
                turnedAtom(i, j, 0, 24 - i, j);
                turnedAtom(i, j, 1, i, 24 - j);
                turnedAtom(i, j, 2, j, i);
            }
        }
    }

    private static void turnedAtom(int i, int j, int how, int toI, int toJ) {
        String what = "(" + i + ", " + j + ") turned by " + how;
        Consumer<PlanarOverlay> calls = o -> Shapes.atom(o, 2, i, j);
        due.yes(what, Held.made(calls).turn(2, how));
        edges.atoms(what, calls.andThen(o -> o.turn(2, how)), 2, Edges.closureOf(toI, toJ));
    }

    private static void turnOfNothingAndAll() {
        for (int how = 0; how <= 2; how++) {
            int way = how;
            for (int layer = 0; layer <= 5; layer++) {
                int on = layer;
                edges.changesNothing(nothing(), "turn(" + layer + ", " + how + ") of nothing", o -> o.turn(on, way));
                edges.changesNothing(Scene.EVERY_ATOM.calls, "turn(" + layer + ", " + how + ") of all", o -> o.turn(on, way));
            }
            due.yes("turn(5, " + how + ") of nothing", new PlanarOverlay().turn(5, how));
            due.yes("turn(0, " + how + ") of all", Held.made(Scene.EVERY_ATOM.calls).turn(0, how));
        }
    }

    private static void turnRefusesOtherWays() {
        int[] off = {-1, 3, 4, -2, 256, 257, 65538, MAX, MIN, MIN + 1};
        for (int how : off) {
            edges.refuses("turn(0, " + how + ")", o -> o.turn(0, how));
            edges.refuses("turn(5, " + how + ")", o -> o.turn(5, how));
        }
    }

    private static void turnRefusesWhatIsNoLayer() {
        for (int layer : Edges.NO_LAYER) {
            for (int how = 0; how <= 2; how++) {
                int way = how;
                edges.refuses("turn(" + layer + ", " + how + ")", o -> o.turn(layer, way));
            }
        }
        edges.refuses("turn(6, 3)", o -> o.turn(6, 3));
    }

    private static void turnChangesOneLayerAlone() {
        for (int how = 0; how <= 2; how++) {
            int way = how;
            edges.changesOnly(0, "turn(0, " + how + ")", o -> o.turn(0, way));
            edges.changesOnly(5, "turn(5, " + how + ")", o -> o.turn(5, way));
        }
    }
}
