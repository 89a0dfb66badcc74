import java.util.function.Consumer;

/** The bound on the number of calls: an object answers right up to its 512th call. */
public final class CallsEdgesTest {
    private static final int CALLS = 512;
    private static final int[] WANTED = {21, 0, 28, 27, 2, 0, 3, 16, 12};
    private static final Due due = new Due();

    public static void main(String[] args) {
        afterManyCalls("begin", o -> o.begin(1, 1));
        afterManyCalls("go", o -> o.go(12, 12));
        afterManyCalls("a refused go", o -> o.go(13, 12));
        afterManyCalls("draw", o -> o.draw(0));
        afterManyCalls("fill", o -> o.fill(0, 0));
        afterManyCalls("point", o -> o.point(0, 3, 3));
        afterManyCalls("combine", o -> o.combine(1, 0, 0, 0));
        afterManyCalls("grow by nothing", o -> o.grow(0, 0));
        afterManyCalls("shrink by nothing", o -> o.shrink(0, 0));
        afterManyCalls("turn", o -> o.turn(0, 2));
        afterManyCalls("relate", o -> o.relate(0, 1));
        afterManyCalls("measure of pieces", o -> o.measure(0, 4));
        afterManyCalls("measure of holes", o -> o.measure(0, 5));
        afterManyCalls("measure of rings", o -> o.measure(0, 6));
        afterManyCalls("nearest", o -> o.nearest(0, 12, 12));
        afterManyCalls("route", o -> o.route(0, 14, 70));
        afterManyCalls("piece", o -> o.piece(0, 1, 1));
        afterManyCalls("part", o -> o.part(0, 24, 24));
        afterManyCalls("covers", o -> o.covers(0, 1));
        due.end();
    }

    /** Three areas on the diagonal, a call that leaves them again and again, and as the 512th a question. */
    private static void afterManyCalls(String what, Consumer<PlanarOverlay> call) {
        for (int question = 0; question <= 8; question++) {
            PlanarOverlay o = new PlanarOverlay();
            Shapes.area(o, 0, 1, 1, 5, 5);
            Shapes.area(o, 0, 5, 5, 6, 6);
            Shapes.area(o, 0, 8, 8, 10, 10);
            for (int made = 15; made < CALLS - 1; made++) {
                call.accept(o);
            }
            due.is(what + " up to the last call: measure(0, " + question + ")", o.measure(0, question), WANTED[question]);
        }
    }
}
