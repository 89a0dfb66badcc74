import java.util.function.Consumer;

/** Boundary cases of promises 7 and 17: combine and covers. */
public final class CombineEdgesTest {
    private static final Due due = new Due();
    private static final Edges edges = new Edges(due);

    public static void main(String[] args) {
        combineOfNothingAndAll();
        combineAtTheRim();
        combineIntoOneOfThem();
        combineTakesEveryLayer();
        combineRefusesWhatIsNoOp();
        combineRefusesWhatIsNoLayer();
        combineChangesOneLayerAlone();
        coversNothingAndAll();
        coversLooksAtEveryAtom();
        coversTakesEveryLayer();
        coversRefusesWhatIsNoLayer();
        coversChangesNothing();
        due.end();
    }

    // Promise 7.

    /** A set of atoms, made on layer 0 of an object, which then moves it to where it is needed. */
    private enum Kind {
        NOTHING(o -> { }, (i, j) -> false),
        ALL(o -> Shapes.area(o, 0, 0, 0, 12, 12), (i, j) -> true),
        POINT(o -> o.point(0, 12, 12), Edges.closureOf(24, 24)),
        RIM(o -> Shapes.line(o, 0, 0, 0, 12, 0, 12, 12, 0, 12, 0, 0), (i, j) -> i % 24 == 0 || j % 24 == 0),
        CELL(o -> Shapes.area(o, 0, 0, 11, 1, 12), Edges.closureOf(1, 23)),
        EDGE(o -> Shapes.line(o, 0, 0, 0, 0, 1), Edges.closureOf(0, 1));

        final Consumer<PlanarOverlay> calls;
        final Edges.AtomTest has;

        Kind(Consumer<PlanarOverlay> calls, Edges.AtomTest has) {
            this.calls = calls;
            this.has = has;
        }
    }

    /** The first kind on layer a and the second on layer b. */
    private static Consumer<PlanarOverlay> kindsOn(Kind first, int a, Kind second, int b) {
        Consumer<PlanarOverlay> calls = first.calls.andThen(o -> o.combine(0, 0, 0, a)).andThen(o -> o.combine(2, 0, 0, 0));
        return calls.andThen(second.calls).andThen(o -> o.combine(0, 0, 0, b)).andThen(o -> o.combine(2, 0, 0, 0));
    }

    private static boolean combined(int op, boolean inA, boolean inB) {
        boolean[] all = {inA || inB, inA && inB, inA && !inB, inA != inB};
        return all[op];
    }

    /** In the closure of a set: an atom of it, or a face of one. */
    private static Edges.AtomTest closure(Edges.AtomTest set) {
        return (i, j) -> {
            for (int n = 0; n < 9; n++) {
                int overI = i + n % 3 - 1;
                int overJ = j + n / 3 - 1;
                boolean face = (overI == i || overI % 2 != 0) && (overJ == j || overJ % 2 != 0);
                boolean atom = overI >= 0 && overI <= 24 && overJ >= 0 && overJ <= 24;
                if (atom && face && set.holds(overI, overJ)) {
                    return true;
                }
            }
            return false;
        };
    }

    private static void combine(int op, Kind first, int a, Kind second, int b, int into) {
        String call = "combine(" + op + ", " + first + " on " + a + ", " + second + " on " + b + ", " + into + ")";
        Consumer<PlanarOverlay> calls = kindsOn(first, a, second, b);
        due.yes(call, Held.made(calls).combine(op, a, b, into));
        Edges.AtomTest set = (i, j) -> combined(op, first.has.holds(i, j), second.has.holds(i, j));
        edges.atoms(call, calls.andThen(o -> o.combine(op, a, b, into)), into, closure(set));
    }

    private static void combineOfNothingAndAll() {
        for (int op = 0; op <= 3; op++) {
            combine(op, Kind.NOTHING, 1, Kind.NOTHING, 2, 3);
            combine(op, Kind.NOTHING, 1, Kind.ALL, 2, 3);
            combine(op, Kind.ALL, 1, Kind.NOTHING, 2, 3);
            combine(op, Kind.ALL, 1, Kind.ALL, 2, 3);
        }
    }

    private static void combineAtTheRim() {
        for (int op = 0; op <= 3; op++) {
            for (Kind first : Kind.values()) {
                for (Kind second : Kind.values()) {
                    combine(op, first, 3, second, 4, 5);
                }
            }
        }
    }

    private static void combineIntoOneOfThem() {
        for (int op = 0; op <= 3; op++) {
            for (Kind first : Kind.values()) {
                for (Kind second : Kind.values()) {
                    combine(op, first, 1, second, 2, 1);
                    combine(op, first, 1, second, 2, 2);
                }
            }
            for (Kind kind : Kind.values()) {
                int by = op;
                Edges.AtomTest twice = (i, j) -> by <= 1 && kind.has.holds(i, j);
                edges.atoms(kind + " with itself, op " + op,
                    kind.calls.andThen(o -> o.combine(by, 0, 0, 5)), 5, twice);
                edges.atoms(kind + " with itself into itself, op " + op,
                    kind.calls.andThen(o -> o.combine(by, 0, 0, 0)), 0, twice);
            }
        }
    }

    private static void combineTakesEveryLayer() {
        for (int a = 0; a <= 5; a++) {
            for (int b = 0; b <= 5; b++) {
                for (int into = 0; into <= 5; into++) {
                    takesLayers(a, b, into);
                }
            }
        }
    }

    /** Each layer has one point of its own, so that the result tells which layers it is from. */
    private static void takesLayers(int a, int b, int into) {
        PlanarOverlay o = new PlanarOverlay();
        for (int layer = 0; layer <= 5; layer++) {
            o.point(layer, 2 * layer, 12);
        }
        String call = "combine(0, " + a + ", " + b + ", " + into + ")";
        due.yes(call, o.combine(0, a, b, into));
        for (int layer = 0; layer <= 5; layer++) {
            int wanted = layer == a || layer == b ? 0 : 2;
            due.is(call + ", the point of layer " + layer, o.part(into, 4 * layer, 24), wanted);
        }
    }

    private static void combineRefusesWhatIsNoOp() {
        for (int op : Edges.NO_OP) {
            edges.refuses("combine(" + op + ", 0, 1, 5)", o -> o.combine(op, 0, 1, 5));
            edges.refuses("combine(" + op + ", 3, 3, 3)", o -> o.combine(op, 3, 3, 3));
        }
    }

    private static void combineRefusesWhatIsNoLayer() {
        for (int layer : Edges.NO_LAYER) {
            for (int op = 0; op <= 3; op++) {
                int by = op;
                edges.refuses("combine(" + op + ", " + layer + ", 0, 5)", o -> o.combine(by, layer, 0, 5));
                edges.refuses("combine(" + op + ", 5, " + layer + ", 0)", o -> o.combine(by, 5, layer, 0));
                edges.refuses("combine(" + op + ", 0, 5, " + layer + ")", o -> o.combine(by, 0, 5, layer));
            }
            edges.refuses("combine(0, " + layer + " three times)", o -> o.combine(0, layer, layer, layer));
        }
    }

    private static void combineChangesOneLayerAlone() {
        for (int op = 0; op <= 3; op++) {
            int by = op;
            edges.changesOnly(0, "combine(" + op + ", 3, 5, 0)", o -> o.combine(by, 3, 5, 0));
            edges.changesOnly(5, "combine(" + op + ", 0, 1, 5)", o -> o.combine(by, 0, 1, 5));
        }
    }

    // Promise 17.

    private static void coversNothingAndAll() {
        for (Kind first : Kind.values()) {
            for (Kind second : Kind.values()) {
                boolean covers = true;
                for (int n = 0; n < 625; n++) {
                    covers &= first.has.holds(n % 25, n / 25) || !second.has.holds(n % 25, n / 25);
                }
                PlanarOverlay o = Held.made(kindsOn(first, 1, second, 5));
                due.is(first + " covers " + second, o.covers(1, 5) ? 1 : 0, covers ? 1 : 0);
            }
        }
        PlanarOverlay empty = new PlanarOverlay();
        due.yes("nothing covers itself", empty.covers(0, 0));
        PlanarOverlay full = Held.made(Scene.EVERY_ATOM.calls);
        due.yes("all covers itself", full.covers(5, 5));
        due.yes("all covers all", full.covers(0, 5));
    }

    /** Each atom once is the only one of layer b that is not in layer a, which has its faces. */
    private static void coversLooksAtEveryAtom() {
        for (int n = 0; n < 625; n++) {
            int i = n % 25;
            int j = n / 25;
            PlanarOverlay o = new PlanarOverlay();
            Shapes.atom(o, 1, i, j);
            facesOf(o, 0, i, j);
            due.no("the faces of (" + i + ", " + j + ") cover it", o.covers(0, 1));
            due.yes("(" + i + ", " + j + ") covers its faces", o.covers(1, 0));
            Shapes.atom(o, 0, i, j);
            due.yes("(" + i + ", " + j + ") covers itself", o.covers(0, 1));
        }
    }

    private static void facesOf(PlanarOverlay o, int layer, int i, int j) {
        for (int n = 0; n < 9; n++) {
            int faceI = i + n % 3 - 1;
            int faceJ = j + n / 3 - 1;
            boolean face = (faceI == i || i % 2 == 1) && (faceJ == j || j % 2 == 1);
            if (face && n != 4) {
                Shapes.atom(o, layer, faceI, faceJ);
            }
        }
    }

    private static void coversTakesEveryLayer() {
        for (int a = 0; a <= 5; a++) {
            for (int b = 0; b <= 5; b++) {
                PlanarOverlay o = new PlanarOverlay();
                for (int layer = 0; layer <= 5; layer++) {
                    o.point(layer, layer, 0);
                }
                due.is("covers(" + a + ", " + b + ")", o.covers(a, b) ? 1 : 0, a == b ? 1 : 0);
                o.point(a, b, 0);
                due.yes("covers(" + a + ", " + b + ") now", o.covers(a, b));
            }
        }
    }

    private static void coversRefusesWhatIsNoLayer() {
        for (int layer : Edges.NO_LAYER) {
            edges.refuses("covers(" + layer + ", 0)", o -> o.covers(layer, 0));
            edges.refuses("covers(5, " + layer + ")", o -> o.covers(5, layer));
            edges.refuses("covers(" + layer + ", " + layer + ")", o -> o.covers(layer, layer));
        }
    }

    private static void coversChangesNothing() {
        edges.changesNothing("covers(0, 5)", o -> o.covers(0, 5));
        edges.changesNothing("covers(5, 0)", o -> o.covers(5, 0));
    }
}
