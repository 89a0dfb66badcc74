/**
 * Exact plane geometry on a grid: areas, lines and points that are drawn, filled, combined and
 * grown. The words used here (atom, layer, ring, part, piece, hole) are those of the document.
 */
public final class PlanarOverlay {
    private static final int LAST_COORDINATE = 12;
    private static final int POINTS_IN_ROW = 13;
    private static final int LAST_POINT = 168;
    private static final int LAST_INDEX = 24;
    private static final int SIDE = 25;
    private static final int ATOMS = 625;
    private static final int LAYERS = 6;
    private static final int LAST_OP = 3;
    private static final int MOST_CORNERS = 24;
    private static final int MOST_GROWTH = 12;
    private static final int MOST_SHRINKING = 6;

    // A seventh set behind the layers: what a call works on before or beside its layer.
    private static final int ASIDE = 6;
    private static final int STORED_ATOMS = 4375;

    private static final int POINT = 0;
    private static final int EDGE = 1;
    private static final int CELL = 2;

    private static final int INTERIOR = 0;
    private static final int BOUNDARY = 1;
    private static final int EXTERIOR = 2;
    private static final int PART_PAIRS = 9;

    // In the order of turning left, so that 1 more is a turn to the left and 3 more one to the right.
    private static final int EAST = 0;
    private static final int NORTH = 1;
    private static final int WEST = 2;
    private static final int SOUTH = 3;

    private final boolean[] atoms = new boolean[STORED_ATOMS];
    private final int[] cornerX = new int[MOST_CORNERS];
    private final int[] cornerY = new int[MOST_CORNERS];
    private int corners;

    // The atoms that the last spreading reached, in its order, and how many steps it took to each.
    private final int[] reached = new int[ATOMS];
    private final int[] stepsTo = new int[ATOMS];
    private int reachedCount;

    private final int[] digits = new int[PART_PAIRS];

    private int ringCount;
    private int longestRing;
    private int ringCorners;

    public PlanarOverlay() {
        corners = 0;
    }

    public boolean begin(int x, int y) {
        if (!isCoordinate(x) || !isCoordinate(y)) {
            return false;
        }
        cornerX[0] = x;
        cornerY[0] = y;
        corners = 1;
        return true;
    }

    public boolean go(int x, int y) {
        if (!isCoordinate(x) || !isCoordinate(y) || corners < 1 || corners >= MOST_CORNERS) {
            return false;
        }
        boolean sameX = cornerX[corners - 1] == x;
        boolean sameY = cornerY[corners - 1] == y;
        if (sameX == sameY) {
            return false;
        }
        cornerX[corners] = x;
        cornerY[corners] = y;
        corners++;
        return true;
    }

    public boolean draw(int layer) {
        if (!isLayer(layer) || corners == 0) {
            return false;
        }
        for (int n = 0; n < corners; n++) {
            // The last corner is drawn as a step to itself: a path of one corner has no other step.
            int next = n + 1 < corners ? n + 1 : n;
            addStep(layer, n, next);
        }
        return true;
    }

    public boolean fill(int layer, int op) {
        if (!isLayer(layer) || !isOp(op) || !hasRing()) {
            return false;
        }
        setFillingAside();
        mix(op, layer, ASIDE, layer);
        return true;
    }

    public boolean point(int layer, int x, int y) {
        if (!isLayer(layer) || !isCoordinate(x) || !isCoordinate(y)) {
            return false;
        }
        write(layer, 2 * x, 2 * y, true);
        return true;
    }

    public boolean combine(int op, int a, int b, int into) {
        if (!isOp(op) || !isLayer(a) || !isLayer(b) || !isLayer(into)) {
            return false;
        }
        mix(op, a, b, into);
        return true;
    }

    public boolean grow(int layer, int r) {
        if (!isLayer(layer) || r < 0 || r > MOST_GROWTH) {
            return false;
        }
        // One atom near by is enough to be in.
        keepCrowded(layer, 2 * r, 1);
        return true;
    }

    public boolean shrink(int layer, int r) {
        if (!isLayer(layer) || r < 0 || r > MOST_SHRINKING) {
            return false;
        }
        // All atoms near by must be in; where the square cuts the window, there are too few of them.
        int window = 4 * r + 1;
        keepCrowded(layer, 2 * r, window * window);
        return true;
    }

    public boolean turn(int layer, int how) {
        if (!isLayer(layer) || how < 0 || how > 2) {
            return false;
        }
        setAside(layer, true, CELL);
        for (int j = 0; j < SIDE; j++) {
            for (int i = 0; i < SIDE; i++) {
                // Each of the three moves undoes itself, so it also tells where an atom comes from.
                int fromI = how == 0 ? LAST_INDEX - i : how == 2 ? j : i;
                int fromJ = how == 1 ? LAST_INDEX - j : how == 2 ? i : j;
                boolean member = has(ASIDE, fromI, fromJ);
                write(layer, i, j, member);
            }
        }
        return true;
    }

    public int relate(int a, int b) {
        if (!isLayer(a) || !isLayer(b)) {
            return -1;
        }
        for (int n = 0; n < PART_PAIRS; n++) {
            digits[n] = 0;
        }
        for (int j = 0; j < SIDE; j++) {
            for (int i = 0; i < SIDE; i++) {
                int pair = 3 * partOf(a, i, j) + partOf(b, i, j);
                int digit = dimension(i, j) + 1;
                if (digits[pair] < digit) {
                    digits[pair] = digit;
                }
            }
        }
        // What lies outside of the square is exterior to both.
        digits[PART_PAIRS - 1] = CELL + 1;
        int answer = 0;
        for (int n = PART_PAIRS - 1; n >= 0; n--) {
            answer = 4 * answer + digits[n];
        }
        return answer;
    }

    public int measure(int layer, int what) {
        if (!isLayer(layer)) {
            return -1;
        }
        switch (what) {
            case 0: return countParts(layer, CELL, INTERIOR);
            case 1: return countLineEdges(layer);
            case 2: return countParts(layer, EDGE, BOUNDARY);
            case 3: return countParts(layer, POINT, BOUNDARY);
            case 4: return countPieces(layer);
            case 5: return countHoles(layer);
            default: break;
        }
        if (what < 6 || what > 8) {
            return -1;
        }
        walkRings(layer);
        return what == 6 ? ringCount : what == 7 ? longestRing : ringCorners;
    }

    public int nearest(int layer, int x, int y) {
        if (!isLayer(layer) || !isCoordinate(x) || !isCoordinate(y)) {
            return -1;
        }
        int least = -1;
        for (int toY = 0; toY <= LAST_COORDINATE; toY++) {
            for (int toX = 0; toX <= LAST_COORDINATE; toX++) {
                int distance = gap(x, toX) + gap(y, toY);
                if (has(layer, 2 * toX, 2 * toY) && (least < 0 || distance < least)) {
                    least = distance;
                }
            }
        }
        return least;
    }

    public int route(int layer, int from, int to) {
        if (!isLayer(layer) || from < 0 || from > LAST_POINT || to < 0 || to > LAST_POINT) {
            return -1;
        }
        setAside(layer, true, EDGE);
        spread(2 * (from % POINTS_IN_ROW), 2 * (from / POINTS_IN_ROW));
        int goal = spot(2 * (to % POINTS_IN_ROW), 2 * (to / POINTS_IN_ROW));
        for (int n = 0; n < ATOMS && n < reachedCount; n++) {
            if (reached[n] == goal) {
                // Points and edges take turns on the way, so every other step goes onto an edge.
                return stepsTo[n] / 2;
            }
        }
        return -1;
    }

    public int piece(int layer, int x, int y) {
        if (!isLayer(layer) || !isCoordinate(x) || !isCoordinate(y)) {
            return -1;
        }
        if (!has(layer, 2 * x, 2 * y)) {
            return -1;
        }
        setAside(layer, true, CELL);
        spread(2 * x, 2 * y);
        int cells = 0;
        for (int n = 0; n < ATOMS && n < reachedCount; n++) {
            if (dimension(reached[n] % SIDE, reached[n] / SIDE) == CELL) {
                cells++;
            }
        }
        return cells;
    }

    public int part(int layer, int i, int j) {
        return isLayer(layer) ? partOf(layer, i, j) : EXTERIOR;
    }

    public boolean covers(int a, int b) {
        if (!isLayer(a) || !isLayer(b)) {
            return false;
        }
        for (int n = 0; n < ATOMS; n++) {
            if (atoms[b * ATOMS + n] && !atoms[a * ATOMS + n]) {
                return false;
            }
        }
        return true;
    }

    private static boolean isLayer(int layer) {
        return layer >= 0 && layer < LAYERS;
    }

    private static boolean isCoordinate(int x) {
        return x >= 0 && x <= LAST_COORDINATE;
    }

    private static boolean isOp(int op) {
        return op >= 0 && op <= LAST_OP;
    }

    private static int gap(int a, int b) {
        return a < b ? b - a : a - b;
    }

    private static int dimension(int i, int j) {
        return (i & 1) + (j & 1);
    }

    private static int spot(int i, int j) {
        return j * SIDE + i;
    }

    private boolean has(int set, int i, int j) {
        if (i < 0 || i > LAST_INDEX || j < 0 || j > LAST_INDEX) {
            return false;
        }
        return atoms[set * ATOMS + j * SIDE + i];
    }

    private void write(int set, int i, int j, boolean member) {
        if (i < 0 || i > LAST_INDEX || j < 0 || j > LAST_INDEX) {
            return;
        }
        atoms[set * ATOMS + j * SIDE + i] = member;
    }

    /** Sets aside the atoms inside (or, if member is false, outside) of a layer up to a dimension. */
    private void setAside(int layer, boolean member, int mostDimension) {
        for (int j = 0; j < SIDE; j++) {
            for (int i = 0; i < SIDE; i++) {
                boolean kept = has(layer, i, j) == member && dimension(i, j) <= mostDimension;
                write(ASIDE, i, j, kept);
            }
        }
    }

    private void addStep(int layer, int from, int to) {
        int lowX = cornerX[from] < cornerX[to] ? cornerX[from] : cornerX[to];
        int lowY = cornerY[from] < cornerY[to] ? cornerY[from] : cornerY[to];
        int highX = lowX + gap(cornerX[from], cornerX[to]);
        int highY = lowY + gap(cornerY[from], cornerY[to]);
        for (int j = 2 * lowY; j <= 2 * highY; j++) {
            for (int i = 2 * lowX; i <= 2 * highX; i++) {
                write(layer, i, j, true);
            }
        }
    }

    private boolean hasRing() {
        return corners > 0
            && (cornerX[0] == cornerX[corners - 1] || cornerY[0] == cornerY[corners - 1]);
    }

    private void setFillingAside() {
        for (int j = 0; j < SIDE; j++) {
            for (int i = 0; i < SIDE; i++) {
                boolean inside = dimension(i, j) == CELL && isInsideRing(i, j);
                write(ASIDE, i, j, inside);
            }
        }
        close(ASIDE);
    }

    private boolean isInsideRing(int i, int j) {
        boolean inside = false;
        for (int n = 0; n < corners; n++) {
            // Where the path ends at its first corner, the step back has no length and passes nothing.
            int next = n + 1 < corners ? n + 1 : 0;
            boolean passesRow = (2 * cornerY[n] < j) != (2 * cornerY[next] < j);
            if (passesRow && 2 * cornerX[n] < i) {
                inside = !inside;
            }
        }
        return inside;
    }

    /** Adds the faces in two sweeps: across the odd first indices, then across the odd second ones. */
    private void close(int set) {
        for (int j = 0; j < SIDE; j++) {
            for (int i = 1; i < SIDE; i += 2) {
                if (has(set, i, j)) {
                    write(set, i - 1, j, true);
                    write(set, i + 1, j, true);
                }
            }
        }
        for (int j = 1; j < SIDE; j += 2) {
            for (int i = 0; i < SIDE; i++) {
                if (has(set, i, j)) {
                    write(set, i, j - 1, true);
                    write(set, i, j + 1, true);
                }
            }
        }
    }

    private void mix(int op, int a, int b, int into) {
        for (int n = 0; n < ATOMS; n++) {
            boolean inA = atoms[a * ATOMS + n];
            boolean inB = atoms[b * ATOMS + n];
            atoms[into * ATOMS + n] = isMember(op, inA, inB);
        }
        // A union and an intersection of closed sets are closed already: nothing is added to them.
        close(into);
    }

    private static boolean isMember(int op, boolean inA, boolean inB) {
        switch (op) {
            case 0: return inA || inB;
            case 1: return inA && inB;
            case 2: return inA && !inB;
            default: return inA != inB;
        }
    }

    /** A layer becomes the atoms that have at least so many of its atoms within the reach. */
    private void keepCrowded(int layer, int reach, int least) {
        setAside(layer, true, CELL);
        for (int j = 0; j < SIDE; j++) {
            for (int i = 0; i < SIDE; i++) {
                boolean member = countAside(i, j, reach) >= least;
                write(layer, i, j, member);
            }
        }
    }

    private int countAside(int i, int j, int reach) {
        int lowI = i > reach ? i - reach : 0;
        int lowJ = j > reach ? j - reach : 0;
        int count = 0;
        for (int nearJ = lowJ; nearJ <= LAST_INDEX && nearJ <= j + reach; nearJ++) {
            for (int nearI = lowI; nearI <= LAST_INDEX && nearI <= i + reach; nearI++) {
                if (has(ASIDE, nearI, nearJ)) {
                    count++;
                }
            }
        }
        return count;
    }

    private int partOf(int layer, int i, int j) {
        if (!has(layer, i, j)) {
            return EXTERIOR;
        }
        int cells = countCells(layer, i, j);
        // A cell lies at one cell, itself, an edge at two and a point at four.
        if (cells == 4 >> dimension(i, j)) {
            return INTERIOR;
        }
        if (cells > 0) {
            return BOUNDARY;
        }
        boolean lonePoint = dimension(i, j) == POINT;
        return lonePoint && countEdges(layer, i, j) % 2 == 1 ? BOUNDARY : INTERIOR;
    }

    /** Counts the cells of a layer of which an atom is a face; a cell counts itself. */
    private int countCells(int layer, int i, int j) {
        int reachI = 1 - (i & 1);
        int reachJ = 1 - (j & 1);
        int cells = 0;
        for (int nearJ = j - reachJ; nearJ <= j + reachJ; nearJ += 2) {
            for (int nearI = i - reachI; nearI <= i + reachI; nearI += 2) {
                if (has(layer, nearI, nearJ)) {
                    cells++;
                }
            }
        }
        return cells;
    }

    private int countEdges(int layer, int i, int j) {
        int edges = 0;
        for (int direction = EAST; direction <= SOUTH; direction++) {
            int nearI = i + eastward(direction);
            int nearJ = j + northward(direction);
            if (has(layer, nearI, nearJ)) {
                edges++;
            }
        }
        return edges;
    }

    private static int eastward(int direction) {
        return direction == EAST ? 1 : direction == WEST ? -1 : 0;
    }

    private static int northward(int direction) {
        return direction == NORTH ? 1 : direction == SOUTH ? -1 : 0;
    }

    private int countParts(int layer, int ofDimension, int inPart) {
        int count = 0;
        for (int j = 0; j < SIDE; j++) {
            for (int i = 0; i < SIDE; i++) {
                if (dimension(i, j) == ofDimension && partOf(layer, i, j) == inPart) {
                    count++;
                }
            }
        }
        return count;
    }

    private int countLineEdges(int layer) {
        int count = 0;
        for (int j = 0; j < SIDE; j++) {
            for (int i = 0; i < SIDE; i++) {
                boolean edge = dimension(i, j) == EDGE && has(layer, i, j);
                if (edge && countCells(layer, i, j) == 0) {
                    count++;
                }
            }
        }
        return count;
    }

    private int countPieces(int layer) {
        setAside(layer, true, CELL);
        int pieces = 0;
        for (int j = 0; j < SIDE; j++) {
            for (int i = 0; i < SIDE; i++) {
                if (has(ASIDE, i, j)) {
                    spread(i, j);
                    pieces++;
                }
            }
        }
        return pieces;
    }

    private int countHoles(int layer) {
        setAside(layer, false, CELL);
        int holes = 0;
        for (int j = 0; j < SIDE; j++) {
            for (int i = 0; i < SIDE; i++) {
                if (has(ASIDE, i, j)) {
                    spread(i, j);
                    holes += reachedRim() ? 0 : 1;
                }
            }
        }
        return holes;
    }

    private boolean reachedRim() {
        for (int n = 0; n < ATOMS && n < reachedCount; n++) {
            int i = reached[n] % SIDE;
            int j = reached[n] / SIDE;
            if (i == 0 || i == LAST_INDEX || j == 0 || j == LAST_INDEX) {
                return true;
            }
        }
        return false;
    }

    /**
     * Reaches, in the order of their distance, the atoms set aside that hang together with a first
     * one, and takes them away from there. It goes to the four next atoms alone, which are always
     * faces of it or it of them. A point and a cell need no way of their own: in a closed set, and
     * in what is left outside of one, an edge between the two belongs to the set with them.
     */
    private void spread(int i, int j) {
        reachedCount = 0;
        reach(i, j, 0);
        for (int n = 0; n < ATOMS && n < reachedCount; n++) {
            int fromI = reached[n] % SIDE;
            int fromJ = reached[n] / SIDE;
            int steps = stepsTo[n] + 1;
            for (int direction = EAST; direction <= SOUTH; direction++) {
                int nextI = fromI + eastward(direction);
                int nextJ = fromJ + northward(direction);
                reach(nextI, nextJ, steps);
            }
        }
    }

    private void reach(int i, int j, int steps) {
        if (has(ASIDE, i, j) && reachedCount < ATOMS) {
            write(ASIDE, i, j, false);
            reached[reachedCount] = spot(i, j);
            stepsTo[reachedCount] = steps;
            reachedCount++;
        }
    }

    private void walkRings(int layer) {
        setBoundaryEdgesAside(layer);
        ringCount = 0;
        longestRing = 0;
        ringCorners = 0;
        // Every ring has level edges, so none is missed by beginning at these alone.
        for (int j = 0; j < SIDE; j += 2) {
            for (int i = 1; i < SIDE; i += 2) {
                if (has(ASIDE, i, j)) {
                    int edges = walkRing(layer, i, j);
                    ringCount++;
                    longestRing = edges > longestRing ? edges : longestRing;
                }
            }
        }
    }

    private void setBoundaryEdgesAside(int layer) {
        for (int j = 0; j < SIDE; j++) {
            for (int i = 0; i < SIDE; i++) {
                boolean kept = dimension(i, j) == EDGE && countCells(layer, i, j) == 1;
                write(ASIDE, i, j, kept);
            }
        }
    }

    /** Takes the ring of a level edge away from those set aside, counts its corners, answers its length. */
    private int walkRing(int layer, int firstI, int firstJ) {
        int i = firstI;
        int j = firstJ;
        int direction = has(layer, i, j + 1) ? EAST : WEST;
        int edges = 0;
        while (edges < ATOMS && has(ASIDE, i, j)) {
            write(ASIDE, i, j, false);
            edges++;
            int next = directionAfter(layer, i, j, direction);
            ringCorners += next == direction ? 0 : 1;
            i += eastward(direction) + eastward(next);
            j += northward(direction) + northward(next);
            direction = next;
        }
        return edges;
    }

    /** Keeps to the cell on the left as long as that can be: so rings that meet in a point part there. */
    private int directionAfter(int layer, int i, int j, int direction) {
        int left = (direction + 1) % 4;
        int right = (direction + 3) % 4;
        int leftI = i + 2 * eastward(direction) + eastward(left);
        int leftJ = j + 2 * northward(direction) + northward(left);
        if (!has(layer, leftI, leftJ)) {
            return left;
        }
        int rightI = i + 2 * eastward(direction) + eastward(right);
        int rightJ = j + 2 * northward(direction) + northward(right);
        return has(layer, rightI, rightJ) ? right : direction;
    }
}
