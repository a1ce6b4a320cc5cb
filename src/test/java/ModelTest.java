import java.util.ArrayList;
import java.util.List;

// Compares the class, call by call, with a slow second reading of the document: on all short lists
// of corners of a small grid, and on long runs of calls that are the same each time.
public final class ModelTest {
    private static final int NONE = -1000;
    private static final int BAD_ARG = -1;
    private static final int FULL = -2;

    // What two straight lines have in common.
    private static final int NOTHING = 0;
    private static final int ONE_POINT = 1;
    private static final int MANY_POINTS = 2;

    private static int wrong = 0;
    private static long state = 20261115L;

    // ---- the model ----

    private static final class Model {
        final List<Integer> points = new ArrayList<>();

        int n() {
            return points.size();
        }

        long x(int i) {
            return points.get(i % n()) % 16;
        }

        long y(int i) {
            return points.get(i % n()) / 16;
        }

        int corner(int point) {
            if (point < 0 || point > 255) {
                return BAD_ARG;
            }
            if (n() == 10) {
                return FULL;
            }
            points.add(point);
            return n() - 1;
        }

        int insert(int i, int point) {
            if (point < 0 || point > 255 || i < 0 || i > n()) {
                return BAD_ARG;
            }
            if (n() == 10) {
                return FULL;
            }
            points.add(i, point);
            return n();
        }

        int remove(int i) {
            return i < 0 || i >= n() ? BAD_ARG : points.remove(i);
        }

        int move(int dx, int dy) {
            for (int i = 0; i < n(); i++) {
                long newX = x(i) + dx;
                long newY = y(i) + dy;
                if (newX < 0 || newX > 15 || newY < 0 || newY > 15) {
                    return BAD_ARG;
                }
            }
            points.replaceAll(point -> point + dx + 16 * dy);
            return n();
        }

        int reverse() {
            List<Integer> old = new ArrayList<>(points);
            for (int i = 0; i < n(); i++) {
                points.set(i, old.get((n() - i) % n()));
            }
            return n();
        }

        int keep(int p, int q) {
            if (!cut(p, q)) {
                return NONE;
            }
            List<Integer> kept = new ArrayList<>();
            for (int i = p; i % n() != q; i++) {
                kept.add(points.get(i % n()));
            }
            kept.add(points.get(q));
            points.clear();
            points.addAll(kept);
            return n();
        }

        long cross(int a, int b, int c, int d) {
            return (x(b) - x(a)) * (y(d) - y(c)) - (y(b) - y(a)) * (x(d) - x(c));
        }

        long dot(int a, int b, int c, int d) {
            return (x(b) - x(a)) * (x(d) - x(c)) + (y(b) - y(a)) * (y(d) - y(c));
        }

        // The lines a b and c d, by solving for where they meet.
        int common(int a, int b, int c, int d) {
            long below = cross(a, b, c, d);
            if (below != 0) {
                long sign = below < 0 ? -1 : 1;
                long t = sign * cross(a, c, c, d);
                long u = sign * cross(a, c, a, b);
                boolean meet = t >= 0 && t <= sign * below && u >= 0 && u <= sign * below;
                return meet ? ONE_POINT : NOTHING;
            }
            if (cross(a, b, a, c) != 0) {
                return NOTHING;
            }
            long ofC = dot(a, b, a, c);
            long ofD = dot(a, b, a, d);
            long low = Math.max(0, Math.min(ofC, ofD));
            long high = Math.min(dot(a, b, a, b), Math.max(ofC, ofD));
            return low > high ? NOTHING : low == high ? ONE_POINT : MANY_POINTS;
        }

        boolean proper() {
            if (n() < 3 || points.stream().distinct().count() < n()) {
                return false;
            }
            for (int i = 0; i < n(); i++) {
                for (int j = i + 1; j < n(); j++) {
                    boolean joined = j == i + 1 || i == 0 && j == n() - 1;
                    int most = joined ? ONE_POINT : NOTHING;
                    if (common(i, (i + 1) % n(), j, (j + 1) % n()) > most) {
                        return false;
                    }
                }
            }
            return true;
        }

        // As trapezes under the sides.
        int area() {
            long twice = 0;
            for (int i = 0; i < n(); i++) {
                twice += (x(i) - x(i + 1)) * (y(i) + y(i + 1));
            }
            return proper() ? (int) Math.abs(twice) : NONE;
        }

        // By the turn at the lowest corner, the leftmost if there are several.
        boolean left() {
            if (!proper()) {
                return false;
            }
            int least = points.indexOf(points.stream().min(Integer::compare).get());
            int before = (least + n() - 1) % n();
            return cross(before, least, least, least + 1) > 0;
        }

        int edge() {
            if (!proper()) {
                return NONE;
            }
            int sum = 0;
            for (int i = 0; i < n(); i++) {
                sum += divisor((int) Math.abs(x(i) - x(i + 1)), (int) Math.abs(y(i) - y(i + 1)));
            }
            return sum;
        }

        // By Pick's theorem.
        int inside() {
            return proper() ? (area() - edge() + 2) / 2 : NONE;
        }

        int where(int point) {
            return !proper() || point < 0 || point > 255 ? NONE : place(point % 16, point / 16, 1);
        }

        // Of the point px / below, py / below: by how often the sides go round it, in quarters.
        int place(long px, long py, long below) {
            int quarters = 0;
            for (int i = 0; i < n(); i++) {
                long ax = below * x(i) - px;
                long ay = below * y(i) - py;
                long bx = below * x(i + 1) - px;
                long by = below * y(i + 1) - py;
                long turn = ax * by - ay * bx;
                boolean between = Math.min(ax, bx) <= 0 && Math.max(ax, bx) >= 0
                    && Math.min(ay, by) <= 0 && Math.max(ay, by) >= 0;
                if (turn == 0 && between) {
                    return 0;
                }
                int passed = (quarter(bx, by) - quarter(ax, ay) + 4) % 4;
                quarters += passed == 3 ? -1 : passed == 2 && turn < 0 ? -2 : passed;
            }
            return quarters == 0 ? -1 : 1;
        }

        // Each has the half of the axis at which it begins, going round left.
        int quarter(long vx, long vy) {
            return vx > 0 && vy >= 0 ? 0 : vx <= 0 && vy > 0 ? 1 : vx < 0 ? 2 : 3;
        }

        boolean convex() {
            return proper() && area() == hullArea();
        }

        boolean cut(int p, int q) {
            if (!proper() || p < 0 || q < 0 || p >= n() || q >= n()) {
                return false;
            }
            if (p == q || (p + 1) % n() == q || (q + 1) % n() == p) {
                return false;
            }
            List<long[]> stops = stops(p, q);
            for (int k = 1; k < stops.size(); k++) {
                long[] low = stops.get(k - 1);
                long[] high = stops.get(k);
                long[] middle = {low[0] * high[1] + high[0] * low[1], 2 * low[1] * high[1]};
                boolean isLast = high[0] == high[1];
                if (!isInsideAt(p, q, middle) || !isLast && !isInsideAt(p, q, high)) {
                    return false;
                }
            }
            return true;
        }

        // Between one stop and the next, the way from p to q does not pass the line through any side,
        // so what holds of one point holds there of all. As fractions of the way, from 0 to 1.
        List<long[]> stops(int p, int q) {
            List<long[]> stops = new ArrayList<>();
            stops.add(new long[] {0, 1});
            stops.add(new long[] {1, 1});
            for (int i = 0; i < n(); i++) {
                long below = cross(p, q, i, i + 1);
                long above = below == 0 ? dot(p, q, p, i) : cross(p, i, i, i + 1);
                below = below == 0 ? dot(p, q, p, q) : below;
                long sign = below < 0 ? -1 : 1;
                if (sign * above > 0 && sign * above < sign * below) {
                    stops.add(new long[] {sign * above, sign * below});
                }
            }
            stops.sort((one, other) -> Long.compare(one[0] * other[1], other[0] * one[1]));
            return stops;
        }

        boolean isInsideAt(int p, int q, long[] part) {
            long px = part[1] * x(p) + part[0] * (x(q) - x(p));
            long py = part[1] * y(p) + part[0] * (y(q) - y(p));
            return place(px, py, part[1]) == 1;
        }

        List<int[]> allCuts() {
            List<int[]> all = new ArrayList<>();
            for (int p = 0; p < n(); p++) {
                for (int q = p + 1; q < n(); q++) {
                    if (cut(p, q)) {
                        all.add(new int[] {p, q});
                    }
                }
            }
            return all;
        }

        int cuts() {
            return proper() ? allCuts().size() : NONE;
        }

        int tilings() {
            return proper() ? sets(allCuts(), 0, new ArrayList<>()) : NONE;
        }

        // The sets of n - 3 cuts that have the chosen ones and else only cuts from number next on.
        int sets(List<int[]> all, int next, List<int[]> chosen) {
            if (chosen.size() == n() - 3) {
                return 1;
            }
            int sum = 0;
            for (int i = next; i < all.size(); i++) {
                int[] cut = all.get(i);
                if (chosen.stream().allMatch(other -> apart(cut, other))) {
                    chosen.add(cut);
                    sum += sets(all, i + 1, chosen);
                    chosen.remove(chosen.size() - 1);
                }
            }
            return sum;
        }

        boolean apart(int[] one, int[] other) {
            boolean joined = one[0] == other[0] || one[0] == other[1] || one[1] == other[0] || one[1] == other[1];
            return common(one[0], one[1], other[0], other[1]) <= (joined ? ONE_POINT : NOTHING);
        }

        // The lower chain from left to right, then the upper one back, as numbers of points 16 x + y.
        List<Integer> hullPoints() {
            int[] sorted = points.stream().mapToInt(p -> 16 * (p % 16) + p / 16).distinct().sorted().toArray();
            List<Integer> round = new ArrayList<>();
            for (int way = 0; way < 2; way++) {
                List<Integer> chain = new ArrayList<>();
                for (int k = 0; k < sorted.length; k++) {
                    int point = sorted[way == 0 ? k : sorted.length - 1 - k];
                    while (chain.size() >= 2
                        && !turnsLeft(chain.get(chain.size() - 2), chain.get(chain.size() - 1), point)) {
                        chain.remove(chain.size() - 1);
                    }
                    chain.add(point);
                }
                if (!chain.isEmpty()) {
                    chain.remove(chain.size() - 1);
                }
                round.addAll(chain);
            }
            return round;
        }

        boolean turnsLeft(int a, int b, int c) {
            return (b / 16 - a / 16) * (c % 16 - b % 16) - (b % 16 - a % 16) * (c / 16 - b / 16) > 0;
        }

        int hull() {
            int size = hullPoints().size();
            return size < 3 ? NONE : size;
        }

        int hullArea() {
            List<Integer> round = hullPoints();
            int twice = 0;
            for (int i = 0; i < round.size(); i++) {
                int a = round.get(i);
                int b = round.get((i + 1) % round.size());
                twice += (a / 16) * (b % 16) - (a % 16) * (b / 16);
            }
            return round.size() < 3 ? NONE : twice;
        }

        int widest() {
            long greatest = NONE;
            for (int i = 0; i < n(); i++) {
                for (int j = 0; j < i; j++) {
                    greatest = Math.max(greatest, dot(i, j, i, j));
                }
            }
            return (int) greatest;
        }
    }

    private static int divisor(int a, int b) {
        return b == 0 ? a : divisor(b, a % b);
    }

    // ---- the comparison ----

    private static void due(Model model, String call, int got, int want) {
        if (got != want) {
            wrong++;
            if (wrong <= 50) {
                System.out.println(model.points + ": " + call + " answered " + got + ", due is " + want);
            }
        }
    }

    private static void due(Model model, String call, boolean got, boolean want) {
        due(model, call, got ? 1 : 0, want ? 1 : 0);
    }

    private static void compareAnswers(GridPolygons x, Model model) {
        due(model, "corners()", x.corners(), model.n());
        due(model, "proper()", x.proper(), model.proper());
        due(model, "area()", x.area(), model.area());
        due(model, "left()", x.left(), model.left());
        due(model, "edge()", x.edge(), model.edge());
        due(model, "inside()", x.inside(), model.inside());
        due(model, "convex()", x.convex(), model.convex());
        due(model, "cuts()", x.cuts(), model.cuts());
        due(model, "tilings()", x.tilings(), model.tilings());
        due(model, "hull()", x.hull(), model.hull());
        due(model, "hullArea()", x.hullArea(), model.hullArea());
        due(model, "widest()", x.widest(), model.widest());
    }

    private static void compareSomePoints(GridPolygons x, Model model, int grid) {
        for (int k = 0; k < 3; k++) {
            int point = anyPoint(grid);
            due(model, "where(" + point + ")", x.where(point), model.where(point));
            int p = any(model.n() + 2) - 1;
            int q = any(model.n() + 2) - 1;
            due(model, "cut(" + p + ", " + q + ")", x.cut(p, q), model.cut(p, q));
        }
    }

    private static void compareAllCuts(GridPolygons x, Model model) {
        for (int p = -1; p <= model.n(); p++) {
            for (int q = -1; q <= model.n(); q++) {
                due(model, "cut(" + p + ", " + q + ")", x.cut(p, q), model.cut(p, q));
            }
        }
    }

    private static void compareAllPoints(GridPolygons x, Model model) {
        for (int point = -1; point <= 256; point++) {
            due(model, "where(" + point + ")", x.where(point), model.where(point));
        }
    }

    private static void compareCorners(GridPolygons x, Model model) {
        for (int point : model.points) {
            due(model, "remove(0) at the end", x.remove(0), point);
        }
        due(model, "corners() at the end", x.corners(), 0);
    }

    // ---- the inputs ----

    // A row of numbers that is the same in each run; from 0 to below - 1.
    private static int any(int below) {
        state = state * 6364136223846793005L + 1442695040888963407L;
        return (int) ((state >>> 33) % below);
    }

    // In the lowest corner of the grid, where small grids make many points fall on one line.
    private static int anyPoint(int grid) {
        return 16 * any(grid) + any(grid);
    }

    private static GridPolygons made(Model model) {
        GridPolygons x = new GridPolygons();
        for (int point : model.points) {
            x.corner(point);
        }
        return x;
    }

    private static void shortLists(int length) {
        int lists = (int) Math.pow(9, length);
        for (int list = 0; list < lists; list++) {
            Model model = new Model();
            int rest = list;
            for (int k = 0; k < length; k++) {
                model.corner(16 * (rest % 9 / 3) + rest % 3);
                rest /= 9;
            }
            GridPolygons x = made(model);
            compareAnswers(x, model);
            if (model.proper()) {
                compareAllCuts(x, model);
            }
        }
    }

    // A proper polygon that grew corner by corner.
    private static Model grown(int grid, int corners) {
        Model model = new Model();
        for (int tries = 0; tries < 400 && model.n() < corners; tries++) {
            int i = any(model.n() + 1);
            model.insert(i, anyPoint(grid));
            if (model.n() >= 3 && !model.proper()) {
                model.remove(i);
            }
        }
        return model;
    }

    private static void grownPolygons() {
        int[] grids = {3, 4, 5, 7, 10, 16};
        int tens = 0;
        for (int round = 0; round < 3000; round++) {
            Model model = grown(grids[round % grids.length], 3 + any(8));
            tens += model.n() == 10 && model.proper() ? 1 : 0;
            GridPolygons x = made(model);
            compareAnswers(x, model);
            compareAllCuts(x, model);
            compareAllPoints(made(model), model);
        }
        if (tens < 100) {
            wrong++;
            System.out.println("only " + tens + " proper polygons with ten corners");
        }
    }

    private static void change(GridPolygons x, Model model, int grid) {
        int kind = any(20);
        int p = any(model.n() + 2) - 1;
        int q = any(model.n() + 2) - 1;
        int point = any(30) == 0 ? any(2) * 257 - 1 : anyPoint(grid);
        if (kind < 3) {
            due(model, "corner(" + point + ")", x.corner(point), model.corner(point));
        } else if (kind < 11) {
            due(model, "insert(" + p + ", " + point + ")", x.insert(p, point), model.insert(p, point));
        } else if (kind < 13) {
            due(model, "remove(" + p + ")", x.remove(p), model.remove(p));
        } else if (kind < 15) {
            int dx = any(9) - 4;
            int dy = any(9) - 4;
            due(model, "move(" + dx + ", " + dy + ")", x.move(dx, dy), model.move(dx, dy));
        } else if (kind < 17) {
            due(model, "reverse()", x.reverse(), model.reverse());
        } else if (kind < 19 || any(4) > 0) {
            due(model, "keep(" + p + ", " + q + ")", x.keep(p, q), model.keep(p, q));
        } else {
            x.clear();
            model.points.clear();
        }
    }

    // An object is used for at most 512 calls: 10 at the start, 24 times 19, and 11 at the end.
    private static void runs() {
        int[] grids = {2, 3, 4, 6, 9, 16};
        for (int run = 0; run < 2000; run++) {
            int grid = grids[run % grids.length];
            Model model = run % 2 == 0 ? new Model() : grown(grid, 3 + any(8));
            GridPolygons x = made(model);
            for (int step = 0; step < 24; step++) {
                change(x, model, grid);
                compareAnswers(x, model);
                compareSomePoints(x, model, grid);
            }
            compareCorners(x, model);
        }
    }

    public static void main(String[] args) {
        for (int length = 0; length <= 5; length++) {
            shortLists(length);
        }
        grownPolygons();
        runs();
        System.out.println(wrong == 0 ? "all answers are as due" : wrong + " answers are not as due");
        if (wrong != 0) {
            System.exit(1);
        }
    }
}
