import java.util.Random;

/** All promises: long runs of calls, ordinary and wrong ones, against the model. */
public final class ModelTest {
    private static final int RUNS = 800;
    // With the most that one more turn can add, a path of 28 calls, still below the 512 promised.
    private static final int CALLS = 480;
    private static final int[] ODD = {-1, 6, 7, 13, 24, 25, 169, Integer.MIN_VALUE, Integer.MAX_VALUE};

    private static final Due due = new Due();

    private final PlanarOverlay o = new PlanarOverlay();
    private final Model m = new Model();
    private final Random random;
    private final String name;
    private int call;

    private ModelTest(int run) {
        random = new Random(run);
        name = "run " + run;
    }

    public static void main(String[] args) {
        for (int run = 0; run < RUNS; run++) {
            new ModelTest(run).run();
        }
        due.end();
    }

    private void run() {
        while (call < CALLS) {
            int kind = random.nextInt(100);
            if (kind < 25) {
                build();
            } else if (kind < 50) {
                change();
            } else {
                ask();
            }
        }
    }

    /** Mostly a number below the bound, at times a wrong one. */
    private int upTo(int bound) {
        return random.nextInt(40) == 0 ? ODD[random.nextInt(ODD.length)] : random.nextInt(bound);
    }

    private void check(String what, boolean got, boolean want) {
        check(what, got ? 1 : 0, want ? 1 : 0);
    }

    private void check(String what, int got, int want) {
        call++;
        due.is(name + ", call " + call + ": " + what, got, want);
    }

    /** A whole path at once, for single calls would seldom make a ring. */
    private void build() {
        int x = upTo(13);
        int y = upTo(13);
        check("begin(" + x + ", " + y + ")", o.begin(x, y), m.begin(x, y));
        int steps = random.nextInt(8) == 0 ? 26 : random.nextInt(9);
        int firstX = x;
        int firstY = y;
        for (int n = 0; n < steps; n++) {
            boolean home = n == steps - 1 && random.nextBoolean();
            if (n % 2 == 0) {
                x = home ? firstX : upTo(13);
            } else {
                y = home ? firstY : upTo(13);
            }
            check("go(" + x + ", " + y + ")", o.go(x, y), m.go(x, y));
        }
        int layer = upTo(6);
        int op = random.nextInt(3) == 0 ? upTo(4) : 0;
        if (random.nextInt(3) == 0) {
            check("draw(" + layer + ")", o.draw(layer), m.draw(layer));
        } else {
            check("fill(" + layer + ", " + op + ")", o.fill(layer, op), m.fill(layer, op));
        }
    }

    private void change() {
        int layer = upTo(6);
        int x = upTo(13);
        int y = upTo(13);
        int r = random.nextInt(8) == 0 ? upTo(13) : random.nextInt(2);
        int how = upTo(3);
        switch (random.nextInt(7)) {
            case 0: check("point(" + layer + ", " + x + ", " + y + ")", o.point(layer, x, y), m.point(layer, x, y)); break;
            case 1: check("grow(" + layer + ", " + r + ")", o.grow(layer, r), m.grow(layer, r)); break;
            case 2: check("shrink(" + layer + ", " + r + ")", o.shrink(layer, r), m.shrink(layer, r)); break;
            case 3: check("turn(" + layer + ", " + how + ")", o.turn(layer, how), m.turn(layer, how)); break;
            default: mix(); break;
        }
    }

    private void mix() {
        int op = upTo(4);
        int a = upTo(6);
        int b = upTo(6);
        int into = upTo(6);
        String what = "combine(" + op + ", " + a + ", " + b + ", " + into + ")";
        check(what, o.combine(op, a, b, into), m.combine(op, a, b, into));
    }

    private void ask() {
        int a = upTo(6);
        int b = upTo(6);
        int x = upTo(13);
        int y = upTo(13);
        int i = upTo(25);
        int j = upTo(25);
        int what = upTo(9);
        int from = upTo(169);
        int to = upTo(169);
        switch (random.nextInt(9)) {
            case 0: check("relate(" + a + ", " + b + ")", o.relate(a, b), m.relate(a, b)); break;
            case 1: check("nearest(" + a + ", " + x + ", " + y + ")", o.nearest(a, x, y), m.nearest(a, x, y)); break;
            case 2: check("route(" + a + ", " + from + ", " + to + ")", o.route(a, from, to), m.route(a, from, to)); break;
            case 3: check("piece(" + a + ", " + x + ", " + y + ")", o.piece(a, x, y), m.piece(a, x, y)); break;
            case 4: check("part(" + a + ", " + i + ", " + j + ")", o.part(a, i, j), m.part(a, i, j)); break;
            case 5: check("covers(" + a + ", " + b + ")", o.covers(a, b), m.covers(a, b)); break;
            default: check("measure(" + a + ", " + what + ")", o.measure(a, what), m.measure(a, what)); break;
        }
    }
}
