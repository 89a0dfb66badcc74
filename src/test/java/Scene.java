import java.util.function.Consumer;

/** Objects at the edges of what one can hold, each with few enough calls to leave some for a test. */
enum Scene {
    UNTOUCHED("an object without calls", o -> { }),
    ONE_CORNER("a path of one corner", o -> o.begin(12, 12)),
    OPEN("layers without a path that is a ring", Scene::open),
    MIXED("areas, lines and points at the rim", Scene::mixed),
    EVERY_ATOM("every atom on every layer and 24 corners", Scene::everyAtom);

    /** 24 corners that begin and end on the rim; one more step, from (12, 0) to (0, 0), makes the ring. */
    static final int[] COMB = {
        0, 0, 0, 12, 1, 12, 1, 1, 2, 1, 2, 12, 3, 12, 3, 1, 4, 1, 4, 12, 5, 12, 5, 1, 6, 1, 6, 12,
        7, 12, 7, 1, 8, 1, 8, 12, 9, 12, 9, 1, 10, 1, 10, 12, 12, 12, 12, 0};

    final String named;
    final Consumer<PlanarOverlay> calls;

    Scene(String named, Consumer<PlanarOverlay> calls) {
        this.named = named;
        this.calls = calls;
    }

    private static void mixed(PlanarOverlay o) {
        Shapes.area(o, 0, 0, 0, 3, 2);
        Shapes.line(o, 1, 12, 0, 12, 12, 0, 12);
        o.point(2, 0, 12);
        o.point(2, 12, 0);
        o.point(2, 5, 5);
        Shapes.frame(o, 3, 4, 4, 12, 10, 2);
        Shapes.line(o, 5, 1, 6, 1, 9, 0, 9);
        Shapes.path(o, 2, 2, 6, 2, 6, 6, 2, 6);
    }

    private static void open(PlanarOverlay o) {
        mixed(o);
        Shapes.path(o, 1, 1, 5, 1, 5, 4);
    }

    static void everyAtom(PlanarOverlay o) {
        Shapes.area(o, 0, 0, 0, 12, 12);
        for (int layer = 1; layer < 6; layer++) {
            o.combine(0, 0, 0, layer);
        }
        Shapes.path(o, COMB);
    }
}
