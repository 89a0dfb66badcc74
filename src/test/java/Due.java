/** Counts and tells the answers that are not the ones that are due. */
final class Due {
    private int asked;
    private int wrong;

    void is(String call, long got, long want) {
        asked++;
        if (got != want) {
            wrong++;
            System.out.println(call + " answered " + got + ", due is " + want);
        }
    }

    void yes(String call, boolean got) {
        is(call, got ? 1 : 0, 1);
    }

    void no(String call, boolean got) {
        is(call, got ? 1 : 0, 0);
    }

    /** Two layers that cover each other are the same set of atoms. */
    void same(String what, PlanarOverlay o, int a, int b) {
        yes(what + ": layer " + a + " covers " + b, o.covers(a, b));
        yes(what + ": layer " + b + " covers " + a, o.covers(b, a));
    }

    /** Measures 0 to 8 of a layer, or as many of them as are told. */
    void measures(String what, PlanarOverlay o, int layer, int... wants) {
        for (int n = 0; n < wants.length; n++) {
            is(what + ": measure(" + layer + ", " + n + ")", o.measure(layer, n), wants[n]);
        }
    }

    void end() {
        System.out.println(asked + " answers, " + wrong + " of them not as due");
        if (wrong != 0) {
            System.exit(1);
        }
    }
}
