/** Promises 8 to 10: grow, shrink and turn. */
public final class MoveTest {
    private static final Due due = new Due();

    public static void main(String[] args) {
        growing();
        growingAtTheRim();
        shrinking();
        shrinkingAtTheRim();
        turning();
        turningAtTheRim();
        due.end();
    }

    private static void growing() {
        PlanarOverlay o = new PlanarOverlay();
        due.yes("grow nothing", o.grow(0, 12));
        due.is("nothing grows to nothing", o.measure(0, 4), 0);
        o.point(0, 4, 5);
        due.yes("grow(0, 0)", o.grow(0, 0));
        due.measures("r 0 changes nothing", o, 0, 0, 0, 0, 0, 1);
        due.yes("grow(0, 1)", o.grow(0, 1));
        Shapes.area(o, 1, 3, 4, 5, 6);
        due.same("a point by 1", o, 0, 1);
        due.yes("grow(0, 2)", o.grow(0, 2));
        Shapes.area(o, 2, 1, 2, 7, 8);
        due.same("an area by 2", o, 0, 2);
        Shapes.line(o, 3, 6, 3, 6, 4);
        due.yes("grow an edge", o.grow(3, 1));
        Shapes.area(o, 4, 5, 2, 7, 5);
        due.same("an edge by 1", o, 3, 4);
        due.is("other layers stay", o.measure(1, 0), 4);
        Shapes.frame(o, 5, 1, 1, 8, 8, 2);
        due.is("a hole before", o.measure(5, 5), 1);
        due.yes("grow a frame", o.grow(5, 1));
        due.measures("a hole gets narrower", o, 5, 80, 0, 40, 40, 1, 1, 2, 36, 8);
        due.yes("grow a frame again", o.grow(5, 1));
        due.is("no hole is left", o.measure(5, 5), 0);
    }

    private static void growingAtTheRim() {
        PlanarOverlay o = new PlanarOverlay();
        o.point(0, 0, 0);
        o.point(0, 12, 11);
        due.yes("grow(0, 2)", o.grow(0, 2));
        due.measures("cut by the square", o, 0, 4 + 6, 0, 18, 18, 2);
        due.is("the far corner", o.part(0, 24, 24), 1);
        due.is("not around the square", o.part(0, 24, 0), 2);
        o.point(1, 0, 12);
        due.yes("grow(1, 12)", o.grow(1, 12));
        due.measures("by 12", o, 1, 144, 0, 48, 48, 1, 0, 1, 48, 4);
        o.point(2, 0, 12);
        due.yes("grow(2, 11)", o.grow(2, 11));
        due.is("by 11", o.measure(2, 0), 121);
    }

    private static void shrinking() {
        PlanarOverlay o = new PlanarOverlay();
        due.yes("shrink nothing", o.shrink(0, 1));
        Shapes.area(o, 0, 2, 3, 8, 7);
        due.yes("shrink(0, 0)", o.shrink(0, 0));
        due.is("r 0 changes nothing", o.measure(0, 0), 24);
        due.yes("shrink(0, 1)", o.shrink(0, 1));
        Shapes.area(o, 1, 3, 4, 7, 6);
        due.same("an area by 1", o, 0, 1);
        due.yes("shrink(0, 1) again", o.shrink(0, 1));
        Shapes.line(o, 2, 4, 5, 6, 5);
        due.same("an area to a line", o, 0, 2);
        due.yes("shrink a line", o.shrink(0, 1));
        due.is("a line to nothing", o.measure(0, 4), 0);
        Shapes.area(o, 3, 4, 4, 8, 8);
        due.yes("shrink(3, 2)", o.shrink(3, 2));
        due.measures("an area to a point", o, 3, 0, 0, 0, 0, 1, 0);
        due.is("the point", o.nearest(3, 6, 6), 0);
        Shapes.frame(o, 4, 1, 1, 11, 11, 3);
        due.yes("shrink a frame", o.shrink(4, 1));
        due.measures("a hole gets wider", o, 4, 64 - 36, 0, 56, 56, 1, 1, 2, 32, 8);
        Shapes.area(o, 5, 1, 1, 5, 5);
        Shapes.area(o, 5, 5, 5, 9, 9);
        due.yes("shrink two areas that touch", o.shrink(5, 1));
        due.measures("they part", o, 5, 8, 0, 16, 16, 2);
    }

    private static void shrinkingAtTheRim() {
        PlanarOverlay o = new PlanarOverlay();
        o.point(0, 3, 3);
        o.grow(0, 12);
        o.combine(0, 0, 0, 1);
        due.yes("shrink(0, 0)", o.shrink(0, 0));
        due.same("r 0 keeps the rim", o, 0, 1);
        due.yes("shrink(0, 1)", o.shrink(0, 1));
        Shapes.area(o, 2, 1, 1, 11, 11);
        due.same("the square's rim is lost", o, 0, 2);
        due.yes("shrink(1, 6)", o.shrink(1, 6));
        o.point(3, 6, 6);
        due.same("by 6 the middle is left", o, 1, 3);
        Shapes.area(o, 4, 0, 6, 6, 12);
        due.yes("shrink(4, 2)", o.shrink(4, 2));
        Shapes.area(o, 5, 2, 8, 4, 10);
        due.same("an area in a corner of the square", o, 4, 5);
    }

    private static void turning() {
        int[][] tos = {{11, 2, 8, 2, 8, 6}, {1, 10, 4, 10, 4, 6}, {2, 1, 2, 4, 6, 4}};
        int[][] areas = {{4, 8, 3, 10}, {8, 4, 9, 2}, {8, 8, 10, 9}};
        for (int how = 0; how < 3; how++) {
            PlanarOverlay o = new PlanarOverlay();
            Shapes.line(o, 0, 1, 2, 4, 2, 4, 6);
            Shapes.area(o, 0, 8, 8, 9, 10);
            o.combine(0, 0, 0, 1);
            due.yes("turn(0, " + how + ")", o.turn(0, how));
            Shapes.line(o, 2, tos[how]);
            Shapes.area(o, 2, areas[how][0], areas[how][1], areas[how][2], areas[how][3]);
            due.same("turned by " + how, o, 0, 2);
            due.no("turned by " + how + " is moved", o.covers(0, 1));
            due.yes("turn back", o.turn(0, how));
            due.same("turned back by " + how, o, 0, 1);
            due.yes("turn an empty layer", o.turn(5, how));
            due.is("nothing comes of it", o.measure(5, 4), 0);
        }
    }

    private static void turningAtTheRim() {
        int[][] tos = {{12, 3, 12, 0, 5, 0}, {0, 9, 0, 12, 7, 12}, {3, 0, 0, 0, 0, 7}};
        for (int how = 0; how < 3; how++) {
            PlanarOverlay o = new PlanarOverlay();
            Shapes.line(o, 0, 0, 3, 0, 0, 7, 0);
            due.yes("turn(0, " + how + ")", o.turn(0, how));
            Shapes.line(o, 1, tos[how]);
            due.same("the rim turned by " + how, o, 0, 1);
            due.yes("turn(0, " + how + ")", o.turn(0, how));
            Shapes.line(o, 2, 0, 3, 0, 0, 7, 0);
            due.same("the rim turned back by " + how, o, 0, 2);
        }
    }
}
