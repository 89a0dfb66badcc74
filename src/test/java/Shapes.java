/** Draws shapes with the program's own calls. */
final class Shapes {
    private Shapes() {
    }

    /** Makes the path from pairs of coordinates. */
    static void path(PlanarOverlay o, int... xy) {
        o.begin(xy[0], xy[1]);
        for (int n = 2; n + 1 < xy.length; n += 2) {
            o.go(xy[n], xy[n + 1]);
        }
    }

    static void line(PlanarOverlay o, int layer, int... xy) {
        path(o, xy);
        o.draw(layer);
    }

    static void area(PlanarOverlay o, int layer, int x1, int y1, int x2, int y2) {
        path(o, x1, y1, x2, y1, x2, y2, x1, y2);
        o.fill(layer, 0);
    }

    /** An area with a smaller one taken out of it. */
    static void frame(PlanarOverlay o, int layer, int x1, int y1, int x2, int y2, int width) {
        area(o, layer, x1, y1, x2, y2);
        path(o, x1 + width, y1 + width, x2 - width, y1 + width, x2 - width, y2 - width, x1 + width, y2 - width);
        o.fill(layer, 2);
    }

    /** An atom with its faces. */
    static void atom(PlanarOverlay o, int layer, int i, int j) {
        int x = i / 2;
        int y = j / 2;
        if (i % 2 + j % 2 == 0) {
            o.point(layer, x, y);
        } else if (i % 2 + j % 2 == 1) {
            line(o, layer, x, y, x + i % 2, y + j % 2);
        } else {
            area(o, layer, x, y, x + 1, y + 1);
        }
    }
}
