import java.util.function.Consumer;

/**
 * Reads all that an object holds. That takes more than the 512 calls that one object may have, so
 * what is handed in are the calls that make the object, and every reading makes it anew.
 */
final class Held {
    private static final int ROWS_OF_ONE_OBJECT = 13;

    private Held() {
    }

    static PlanarOverlay made(Consumer<PlanarOverlay> calls) {
        PlanarOverlay o = new PlanarOverlay();
        calls.accept(o);
        return o;
    }

    /** The parts of all atoms of a layer, a digit each, the lowest row first. */
    static String parts(Consumer<PlanarOverlay> calls, int layer) {
        StringBuilder parts = new StringBuilder();
        PlanarOverlay o = made(calls);
        for (int j = 0; j <= 24; j++) {
            o = j == ROWS_OF_ONE_OBJECT ? made(calls) : o;
            for (int i = 0; i <= 24; i++) {
                parts.append(o.part(layer, i, j));
            }
        }
        return parts.toString();
    }

    static String layersBut(Consumer<PlanarOverlay> calls, int leftOut) {
        StringBuilder layers = new StringBuilder();
        for (int layer = 0; layer < 6; layer++) {
            layers.append(layer == leftOut ? "" : parts(calls, layer)).append('\n');
        }
        return layers.toString();
    }

    static String layers(Consumer<PlanarOverlay> calls) {
        return layersBut(calls, -1);
    }

    /** Where the path ends, how many corners it still takes, what it draws and what it encloses. */
    static String path(Consumer<PlanarOverlay> calls) {
        StringBuilder path = new StringBuilder();
        for (int n = 0; n <= 12; n++) {
            path.append(made(calls).go(n, 0) ? '+' : '-').append(made(calls).go(0, n) ? '+' : '-');
        }
        path.append(room(calls)).append('\n');
        path.append(parts(calls.andThen(o -> o.combine(2, 0, 0, 0)).andThen(o -> o.draw(0)), 0)).append('\n');
        path.append(parts(calls.andThen(o -> o.combine(2, 0, 0, 0)).andThen(o -> o.fill(0, 0)), 0)).append('\n');
        return path.append(made(calls).draw(0)).append(made(calls).fill(0, 0)).toString();
    }

    /** How many corners the path takes before it is full; an empty one takes none. */
    static int room(Consumer<PlanarOverlay> calls) {
        PlanarOverlay o = made(calls);
        int room = 0;
        // At the latest the 13th go reaches the row 0, and from there each one is a step along it.
        for (int n = 0; n < 40; n++) {
            room += o.go(n % 13, 0) ? 1 : 0;
        }
        return room;
    }

    static String all(Consumer<PlanarOverlay> calls) {
        return layers(calls) + path(calls);
    }
}
