/** Promises 11 and 16: relate and part. */
public final class RelateTest {
    private static final Due due = new Due();

    public static void main(String[] args) {
        areas();
        areaAndLine();
        linesAndPoints();
        pointsOfTheRim();
        nothing();
        partsOfAnArea();
        partsWhereCellsMeet();
        partsOfLines();
        partsAtTheRim();
        due.end();
    }

    /**
     * The nine digits of relate(0, 1), number 0 first: interior, boundary and exterior of layer 0 in
     * three rows, those of layer 1 in three columns. Asked the other way, rows are columns.
     */
    private static void relates(String what, PlanarOverlay o, String rows) {
        int there = 0;
        int back = 0;
        for (int n = 8; n >= 0; n--) {
            there = 4 * there + rows.charAt(n) - '0';
            back = 4 * back + rows.charAt(3 * (n % 3) + n / 3) - '0';
        }
        due.is(what + ": relate(0, 1)", o.relate(0, 1), there);
        due.is(what + ": relate(1, 0)", o.relate(1, 0), back);
    }

    private static PlanarOverlay withArea() {
        PlanarOverlay o = new PlanarOverlay();
        Shapes.area(o, 0, 2, 2, 6, 6);
        return o;
    }

    private static void areas(String what, int x1, int y1, int x2, int y2, String rows) {
        PlanarOverlay o = withArea();
        Shapes.area(o, 1, x1, y1, x2, y2);
        relates(what, o, rows);
    }

    private static void areas() {
        areas("overlap", 4, 4, 9, 9, "323212323");
        areas("the same", 2, 2, 6, 6, "300020003");
        areas("one inside", 3, 3, 5, 5, "323002003");
        areas("one inside at the rim", 2, 3, 5, 5, "323022003");
        areas("along an edge", 6, 2, 9, 6, "003022323");
        areas("at a point", 6, 6, 9, 9, "003012323");
        areas("apart", 8, 8, 9, 9, "003002323");
        areas("the whole square around", 0, 0, 12, 12, "300200323");
        PlanarOverlay o = new PlanarOverlay();
        Shapes.area(o, 0, 0, 0, 12, 12);
        Shapes.area(o, 1, 0, 0, 12, 12);
        relates("nothing but the outside of the square is exterior", o, "300020003");
    }

    private static void areaAndLine(String what, String rows, int... xy) {
        PlanarOverlay o = withArea();
        Shapes.line(o, 1, xy);
        relates(what, o, rows);
    }

    private static void areaAndLine() {
        areaAndLine("line across", "203102213", 0, 4, 9, 4);
        areaAndLine("line inside", "213002003", 3, 4, 5, 4);
        areaAndLine("line into it", "213102213", 4, 4, 9, 4);
        areaAndLine("line along the rim", "003212003", 2, 3, 2, 5);
        areaAndLine("line that ends at it", "003012213", 6, 4, 9, 4);
        areaAndLine("line without ends inside", "203002003", 3, 3, 5, 3, 5, 5, 3, 5, 3, 3);
        areaAndLine("point inside", "103002003", 4, 4);
        areaAndLine("point on the rim", "003102003", 2, 4);
        areaAndLine("point apart", "003002103", 9, 9);
    }

    private static void lines(String what, String rows, int... xy) {
        PlanarOverlay o = new PlanarOverlay();
        Shapes.line(o, 0, 1, 5, 9, 5);
        Shapes.line(o, 1, xy);
        relates(what, o, rows);
    }

    private static void linesAndPoints() {
        lines("lines that cross", "102001213", 5, 1, 5, 9);
        lines("lines that share edges", "212101213", 5, 5, 12, 5);
        lines("the same line", "200010003", 9, 5, 1, 5);
        lines("end to end", "002011213", 9, 5, 12, 5);
        lines("end to the middle", "012001213", 4, 5, 4, 9);
        lines("a point in the middle", "102001003", 4, 5);
        lines("a point at the end", "002101003", 1, 5);
    }

    private static void pointsOfTheRim() {
        int[][] points = {{0, 5}, {5, 0}, {12, 5}, {5, 12}, {0, 0}, {12, 12}};
        for (int[] xy : points) {
            PlanarOverlay o = new PlanarOverlay();
            o.point(0, xy[0], xy[1]);
            relates("a point of the rim and nothing", o, "001000003");
            o.point(1, xy[0], xy[1]);
            relates("the same point of the rim", o, "100000003");
        }
    }

    private static void nothing() {
        PlanarOverlay o = new PlanarOverlay();
        relates("nothing and nothing", o, "000000003");
        Shapes.area(o, 0, 2, 2, 6, 6);
        relates("an area and nothing", o, "003002003");
        due.is("a layer to itself", o.relate(0, 0), 3 + 2 * 256 + 3 * 65536);
        PlanarOverlay p = new PlanarOverlay();
        Shapes.line(p, 0, 2, 2, 6, 2, 6, 6, 2, 6, 2, 2);
        relates("a line without ends and nothing", p, "002000003");
        due.is("a line without ends to itself", p.relate(0, 0), 2 + 3 * 65536);
        relates("asked again after itself", p, "002000003");
    }

    /** Parts of a square of atoms, the lowest row first. */
    private static void parts(String what, PlanarOverlay o, int i, int j, String... rows) {
        for (int row = 0; row < rows.length; row++) {
            for (int n = 0; n < rows[row].length(); n++) {
                String call = what + ": part(0, " + (i + n) + ", " + (j + row) + ")";
                due.is(call, o.part(0, i + n, j + row), rows[row].charAt(n) - '0');
            }
        }
    }

    private static void partsOfAnArea() {
        PlanarOverlay o = new PlanarOverlay();
        Shapes.area(o, 0, 2, 3, 4, 5);
        parts("an area", o, 3, 5,
            "2222222", "2111112", "2100012", "2100012", "2100012", "2111112", "2222222");
    }

    private static void partsWhereCellsMeet() {
        PlanarOverlay o = new PlanarOverlay();
        Shapes.area(o, 0, 2, 2, 3, 3);
        Shapes.area(o, 0, 3, 3, 4, 4);
        parts("two cells at a point", o, 4, 4, "11122", "10122", "11111", "22101", "22111");
        Shapes.area(o, 0, 3, 2, 4, 3);
        parts("three cells at a point", o, 4, 4, "11111", "10001", "11101", "22101", "22111");
        Shapes.area(o, 0, 2, 3, 3, 4);
        parts("four cells at a point", o, 4, 4, "11111", "10001", "10001", "10001", "11111");
    }

    private static void partsOfLines() {
        PlanarOverlay o = new PlanarOverlay();
        o.point(0, 5, 5);
        parts("no edge", o, 9, 9, "222", "202", "222");
        Shapes.line(o, 0, 5, 5, 6, 5);
        parts("one edge", o, 9, 9, "22222", "21012", "22222");
        Shapes.line(o, 0, 5, 5, 5, 6);
        parts("two edges", o, 10, 10, "001", "022", "122");
        Shapes.line(o, 0, 5, 5, 4, 5);
        parts("three edges", o, 8, 10, "10101", "22022", "22122");
        Shapes.line(o, 0, 5, 5, 5, 4);
        parts("four edges", o, 8, 8, "22122", "22022", "10001", "22022", "22122");
        PlanarOverlay p = withArea();
        Shapes.line(p, 0, 6, 4, 8, 4);
        parts("a line at an area", p, 11, 7, "012222", "010001", "012222");
        Shapes.line(p, 0, 6, 6, 7, 6);
        parts("a line at the corner of an area", p, 11, 11, "0122", "1101", "2222");
    }

    private static void partsAtTheRim() {
        PlanarOverlay o = new PlanarOverlay();
        Shapes.area(o, 0, 0, 0, 1, 1);
        Shapes.area(o, 0, 11, 11, 12, 12);
        parts("the first cell", o, -1, -1, "22222", "21112", "21012", "21112", "22222");
        parts("the last cell", o, 21, 21, "22222", "21112", "21012", "21112", "22222");
        Shapes.line(o, 0, 12, 0, 12, 2);
        parts("a line on the rim", o, 23, 0, "212", "202", "202", "202", "212");
        PlanarOverlay p = new PlanarOverlay();
        Shapes.area(p, 0, 0, 0, 12, 12);
        parts("the whole square", p, 22, 22, "0012", "0012", "1112", "2222");
        due.is("in the middle", p.part(0, 12, 12), 0);
        due.is("on the left", p.part(0, 0, 12), 1);
    }
}
