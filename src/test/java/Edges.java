import java.util.HashMap;
import java.util.Map;
import java.util.function.Consumer;
import java.util.function.Predicate;
import java.util.function.ToIntFunction;

/** What the tests of boundary cases share: wrong arguments, refused calls and whole layers. */
final class Edges {
    private static final int MIN = Integer.MIN_VALUE;
    private static final int MAX = Integer.MAX_VALUE;

    /**
     * Just out of range and far out of it. Of 256, 65536 and the like a byte or a short would be a
     * layer; 625 times 989560465 wraps around to 1, the place of an atom of the first layer.
     */
    static final int[] NO_LAYER = {-1, 6, 7, -6, 256, 65536, 989560465, -989560464, MIN, MIN + 1, MAX};

    /**
     * As above. Twice the number, the index of an atom, wraps around into the square for some of
     * them; 50 times 1116691497, the place of a row, to 2.
     */
    static final int[] NO_COORDINATE = {
        -1, 13, 14, -12, 24, 25, 261, 65541, 1116691497, MIN, MIN + 5, MIN / 2 + 5, MAX};

    static final int[] NO_OP = {-1, 4, 5, -3, 257, 65536, MIN, MIN + 1, MAX};

    interface AtomTest {
        boolean holds(int i, int j);
    }

    private final Due due;
    private final Map<Consumer<PlanarOverlay>, String> held = new HashMap<>();

    Edges(Due due) {
        this.due = due;
    }

    /** A call is refused in every scene, and nothing changes. */
    void refuses(String call, Predicate<PlanarOverlay> asked) {
        for (Scene scene : Scene.values()) {
            refusesIn(scene.calls, scene.named + ": " + call, asked);
        }
    }

    void refusesIn(Consumer<PlanarOverlay> calls, String call, Predicate<PlanarOverlay> asked) {
        due.no(call, asked.test(Held.made(calls)));
        changesNothing(calls, call, asked::test);
    }

    /** A question has the same answer in every scene, and nothing changes. */
    void answers(String call, int answer, ToIntFunction<PlanarOverlay> asked) {
        for (Scene scene : Scene.values()) {
            due.is(scene.named + ": " + call, asked.applyAsInt(Held.made(scene.calls)), answer);
            changesNothing(scene.calls, scene.named + ": " + call, asked::applyAsInt);
        }
    }

    void changesNothing(Consumer<PlanarOverlay> calls, String what, Consumer<PlanarOverlay> asked) {
        String before = held.computeIfAbsent(calls, Held::all);
        String after = Held.all(calls.andThen(asked));
        due.yes(what + " changes nothing", before.equals(after));
    }

    void changesNothing(String what, Consumer<PlanarOverlay> asked) {
        for (Scene scene : Scene.values()) {
            changesNothing(scene.calls, scene.named + ": " + what, asked);
        }
    }

    /** A call that is taken changes no other layer, and not the path. */
    void changesOnly(int layer, String what, Consumer<PlanarOverlay> asked) {
        for (Scene scene : Scene.values()) {
            String before = Held.layersBut(scene.calls, layer) + Held.path(scene.calls);
            Consumer<PlanarOverlay> calls = scene.calls.andThen(asked);
            String after = Held.layersBut(calls, layer) + Held.path(calls);
            due.yes(scene.named + ": " + what + " changes nothing else", before.equals(after));
        }
    }

    void changesOnlyThePath(String what, Consumer<PlanarOverlay> asked) {
        for (Scene scene : Scene.values()) {
            String before = Held.layers(scene.calls);
            String after = Held.layers(scene.calls.andThen(asked));
            due.yes(scene.named + ": " + what + " changes no layer", before.equals(after));
        }
    }

    /** Whether each of the 625 atoms is in a layer. */
    void atoms(String what, Consumer<PlanarOverlay> calls, int layer, AtomTest wanted) {
        String parts = Held.parts(calls, layer);
        for (int j = 0; j <= 24; j++) {
            for (int i = 0; i <= 24; i++) {
                boolean member = parts.charAt(25 * j + i) != '2';
                due.is(what + ": atom (" + i + ", " + j + ")", member ? 1 : 0, wanted.holds(i, j) ? 1 : 0);
            }
        }
    }

    void isEmpty(String what, Consumer<PlanarOverlay> calls, int layer) {
        atoms(what, calls, layer, (i, j) -> false);
    }

    void hasEveryAtom(String what, Consumer<PlanarOverlay> calls, int layer) {
        atoms(what, calls, layer, (i, j) -> true);
    }

    /** The closure of one atom: it reaches to both sides where an index is odd. */
    static AtomTest closureOf(int atomI, int atomJ) {
        return (i, j) -> Math.abs(i - atomI) <= atomI % 2 && Math.abs(j - atomJ) <= atomJ % 2;
    }

    /** All atoms of a rectangle of the plane. */
    static AtomTest rectangle(int x1, int y1, int x2, int y2) {
        return (i, j) -> i >= 2 * x1 && i <= 2 * x2 && j >= 2 * y1 && j <= 2 * y2;
    }
}
