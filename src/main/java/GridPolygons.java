public final class GridPolygons {
    public static final int BAD_ARG = -1;
    public static final int FULL = -2;
    public static final int NONE = -1000;

    private static final int WIDTH = 16;
    private static final int POINTS = 256;
    private static final int MOST = 10;
    private static final int MOST_PAIRS = MOST * MOST;

    private static final int OUTSIDE = -1;
    private static final int ON_EDGE = 0;
    private static final int INSIDE = 1;

    private final int[] xs = new int[MOST];
    private final int[] ys = new int[MOST];
    private final int[] spareXs = new int[MOST];
    private final int[] spareYs = new int[MOST];
    private final int[] ways = new int[MOST_PAIRS];
    private int count;

    public GridPolygons() {
        count = 0;
    }

    public int corner(int point) {
        if (!isPoint(point)) {
            return BAD_ARG;
        }
        if (count >= MOST) {
            return FULL;
        }
        setCorner(count, point);
        count++;
        return count - 1;
    }

    public int insert(int i, int point) {
        if (!isPoint(point) || i < 0 || i > count) {
            return BAD_ARG;
        }
        if (count >= MOST) {
            return FULL;
        }
        for (int k = count; k > i; k--) {
            xs[k] = xs[k - 1];
            ys[k] = ys[k - 1];
        }
        setCorner(i, point);
        count++;
        return count;
    }

    public int remove(int i) {
        if (!isCorner(i)) {
            return BAD_ARG;
        }
        int point = WIDTH * ys[i] + xs[i];
        for (int k = i + 1; k < count; k++) {
            xs[k - 1] = xs[k];
            ys[k - 1] = ys[k];
        }
        count--;
        return point;
    }

    public void clear() {
        count = 0;
    }

    public int corners() {
        return count;
    }

    public int move(int dx, int dy) {
        // Nothing may change if the call is refused, so all corners are looked at first.
        // A sum that wraps around is far outside the grid too.
        for (int i = 0; i < count; i++) {
            if (!isOnAxis(xs[i] + dx) || !isOnAxis(ys[i] + dy)) {
                return BAD_ARG;
            }
        }
        for (int i = 0; i < count; i++) {
            xs[i] += dx;
            ys[i] += dy;
        }
        return count;
    }

    public int reverse() {
        for (int low = 1; 2 * low < count; low++) {
            swapCorners(low, count - low);
        }
        return count;
    }

    public int keep(int p, int q) {
        if (!proper() || !isCut(p, q)) {
            return NONE;
        }
        int kept = (p <= q ? q - p : q - p + count) + 1;
        keepFrom(p, kept);
        return count;
    }

    public boolean proper() {
        if (count < 3) {
            return false;
        }
        for (int i = 0; i < count; i++) {
            for (int j = i + 1; j < count; j++) {
                if (isSamePoint(i, j)) {
                    return false;
                }
            }
        }
        for (int i = 0; i < count; i++) {
            for (int j = i + 1; j < count; j++) {
                if (sidesClash(i, j)) {
                    return false;
                }
            }
        }
        return true;
    }

    public int area() {
        if (!proper()) {
            return NONE;
        }
        int twice = signedArea();
        return twice < 0 ? -twice : twice;
    }

    public boolean left() {
        return proper() && signedArea() > 0;
    }

    public int edge() {
        return proper() ? countPoints(ON_EDGE) : NONE;
    }

    public int inside() {
        return proper() ? countPoints(INSIDE) : NONE;
    }

    public int where(int point) {
        if (!isPoint(point) || !proper()) {
            return NONE;
        }
        return placeOf(2 * (point % WIDTH), 2 * (point / WIDTH));
    }

    public boolean convex() {
        if (!proper()) {
            return false;
        }
        boolean turnsLeft = false;
        boolean turnsRight = false;
        for (int i = 0; i < count; i++) {
            int middle = next(i);
            int end = next(middle);
            int turn = turnOf(i, middle, end);
            turnsLeft = turnsLeft || turn > 0;
            turnsRight = turnsRight || turn < 0;
        }
        return !(turnsLeft && turnsRight);
    }

    public boolean cut(int p, int q) {
        return proper() && isCut(p, q);
    }

    public int cuts() {
        if (!proper()) {
            return NONE;
        }
        int found = 0;
        for (int p = 0; p < count; p++) {
            for (int q = p + 1; q < count; q++) {
                if (isCut(p, q)) {
                    found++;
                }
            }
        }
        return found;
    }

    public int tilings() {
        if (!proper()) {
            return NONE;
        }
        // ways holds, for corners p < q, the tilings of the part with the corners p to q. No
        // triangle is ever flat: a corner between two others keeps these from being a cut.
        for (int span = 1; span < count; span++) {
            for (int p = 0; p + span < count; p++) {
                int q = p + span;
                boolean parts = areNeighbours(p, q) || isCut(p, q);
                ways[p * MOST + q] = parts ? tilingsOfPart(p, q) : 0;
            }
        }
        return ways[count - 1];
    }

    public int hull() {
        int found = 0;
        for (int a = 0; a < count; a++) {
            for (int b = 0; b < count; b++) {
                if (isHullSide(a, b)) {
                    found++;
                }
            }
        }
        // Corners on one line have two such sides, there and back, or none.
        return found < 3 ? NONE : found;
    }

    public int hullArea() {
        int twice = 0;
        for (int a = 0; a < count; a++) {
            for (int b = 0; b < count; b++) {
                if (isHullSide(a, b)) {
                    twice += xs[a] * ys[b] - xs[b] * ys[a];
                }
            }
        }
        // Only corners on one line, or none at all, span nothing.
        return twice == 0 ? NONE : twice;
    }

    public int widest() {
        if (count < 2) {
            return NONE;
        }
        int greatest = 0;
        for (int i = 0; i < count; i++) {
            for (int j = i + 1; j < count; j++) {
                int dx = xs[i] - xs[j];
                int dy = ys[i] - ys[j];
                int square = dx * dx + dy * dy;
                greatest = square > greatest ? square : greatest;
            }
        }
        return greatest;
    }

    private static boolean isPoint(int point) {
        return point >= 0 && point < POINTS;
    }

    private static boolean isOnAxis(int value) {
        return value >= 0 && value < WIDTH;
    }

    private boolean isCorner(int i) {
        return i >= 0 && i < count;
    }

    private void setCorner(int i, int point) {
        xs[i] = point % WIDTH;
        ys[i] = point / WIDTH;
    }

    private void swapCorners(int i, int j) {
        int x = xs[i];
        int y = ys[i];
        xs[i] = xs[j];
        ys[i] = ys[j];
        xs[j] = x;
        ys[j] = y;
    }

    // By way of the spare arrays, for a corner may go where another one has yet to be read.
    private void keepFrom(int first, int kept) {
        int from = first;
        for (int k = 0; k < kept; k++) {
            spareXs[k] = xs[from];
            spareYs[k] = ys[from];
            from = next(from);
        }
        for (int k = 0; k < kept; k++) {
            xs[k] = spareXs[k];
            ys[k] = spareYs[k];
        }
        count = kept;
    }

    private int next(int i) {
        return i + 1 < count ? i + 1 : 0;
    }

    private boolean areNeighbours(int p, int q) {
        return next(p) == q || next(q) == p;
    }

    private boolean isSamePoint(int i, int j) {
        return xs[i] == xs[j] && ys[i] == ys[j];
    }

    // Above 0 if the way from a by b to c turns left, below 0 if right, 0 if they are on one line.
    private int turnOf(int a, int b, int c) {
        return (xs[b] - xs[a]) * (ys[c] - ys[a]) - (ys[b] - ys[a]) * (xs[c] - xs[a]);
    }

    // The ends a and b count too: a side that starts at another side's end touches it.
    private boolean isBetween(int a, int b, int c) {
        int ax = xs[a] - xs[c];
        int ay = ys[a] - ys[c];
        int bx = xs[b] - xs[c];
        int by = ys[b] - ys[c];
        return ax * by == ay * bx && ax * bx + ay * by <= 0;
    }

    private boolean linesMeet(int a, int b, int c, int d) {
        // An end that touches comes first: after that, ends on different sides mean a crossing.
        if (isBetween(a, b, c) || isBetween(a, b, d) || isBetween(c, d, a) || isBetween(c, d, b)) {
            return true;
        }
        boolean cLeft = turnOf(a, b, c) > 0;
        boolean dLeft = turnOf(a, b, d) > 0;
        boolean aLeft = turnOf(c, d, a) > 0;
        boolean bLeft = turnOf(c, d, b) > 0;
        return cLeft != dLeft && aLeft != bLeft;
    }

    // Asked of the sides that start at i and j when all corners are different points, so that
    // neighbouring sides can share more than their corner only by lying one along the other.
    private boolean sidesClash(int i, int j) {
        int afterI = next(i);
        int afterJ = next(j);
        if (afterI == j) {
            return isBetween(i, j, afterJ) || isBetween(j, afterJ, i);
        }
        if (afterJ == i) {
            return isBetween(j, i, afterI) || isBetween(i, afterI, j);
        }
        return linesMeet(i, afterI, j, afterJ);
    }

    // Its sign tells the way round: above 0 is left.
    private int signedArea() {
        int twice = 0;
        for (int i = 0; i < count; i++) {
            int j = next(i);
            twice += xs[i] * ys[j] - xs[j] * ys[i];
        }
        return twice;
    }

    private int countPoints(int place) {
        int found = 0;
        for (int y = 0; y < WIDTH; y++) {
            for (int x = 0; x < WIDTH; x++) {
                if (placeOf(2 * x, 2 * y) == place) {
                    found++;
                }
            }
        }
        return found;
    }

    // Takes twice the coordinates, so that the middle between two corners can be asked for too.
    private int placeOf(int x2, int y2) {
        boolean isIn = false;
        for (int i = 0; i < count; i++) {
            int j = next(i);
            int ax = 2 * xs[i] - x2;
            int ay = 2 * ys[i] - y2;
            int bx = 2 * xs[j] - x2;
            int by = 2 * ys[j] - y2;
            int turn = ax * by - ay * bx;
            if (turn == 0 && ax * bx + ay * by <= 0) {
                return ON_EDGE;
            }
            // A ray to the right crosses a side that passes its height with the point on the
            // side's left when it goes up, on its right when it goes down.
            boolean goesUp = by > 0;
            if ((ay > 0) != goesUp && (turn > 0) == goesUp) {
                isIn = !isIn;
            }
        }
        return isIn ? INSIDE : OUTSIDE;
    }

    // Asked of a proper polygon alone.
    private boolean isCut(int p, int q) {
        if (!isCorner(p) || !isCorner(q) || p == q || areNeighbours(p, q)) {
            return false;
        }
        // Sides that end at p or q need no look: one that lay along the line would either lead
        // to another side that meets it, or the whole line, with its middle, would be edge.
        for (int i = 0; i < count; i++) {
            int j = next(i);
            boolean endsThere = i == p || i == q || j == p || j == q;
            if (!endsThere && linesMeet(p, q, i, j)) {
                return false;
            }
        }
        return placeOf(xs[p] + xs[q], ys[p] + ys[q]) == INSIDE;
    }

    // In each tiling just one corner makes a triangle with p and q, so nothing counts twice.
    private int tilingsOfPart(int p, int q) {
        if (q == p + 1) {
            return 1;
        }
        int sum = 0;
        for (int k = p + 1; k < q; k++) {
            sum += ways[p * MOST + k] * ways[k * MOST + q];
        }
        return sum;
    }

    // The hull is gone round left, so that each of its sides is found in one direction alone.
    private boolean isHullSide(int a, int b) {
        if (isSamePoint(a, b) || isRepeated(a) || isRepeated(b)) {
            return false;
        }
        for (int c = 0; c < count; c++) {
            if (turnOf(a, b, c) <= 0 && !isBetween(a, b, c)) {
                return false;
            }
        }
        return true;
    }

    // The same point may be several corners; the hull has the first of them alone.
    private boolean isRepeated(int i) {
        for (int k = 0; k < i; k++) {
            if (isSamePoint(k, i)) {
                return true;
            }
        }
        return false;
    }
}
