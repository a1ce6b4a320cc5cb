import java.util.ArrayList;
import java.util.Arrays;
import java.util.List;
import java.util.function.ToIntFunction;

// A test for each sentence of the document that names a boundary case, in the document's order.
// What is due was worked out by hand or is the sentence itself, said for all numbers in a range.
public final class BoundariesTest {
    private static final int BAD_ARG = -1;
    private static final int FULL = -2;
    private static final int NONE = -1000;
    private static final int MIN = Integer.MIN_VALUE;
    private static final int MAX = Integer.MAX_VALUE;

    // Around the ends of all ranges of the document, and numbers that wrap around when they are
    // multiplied by 16 or added to a coordinate.
    private static final int[] EXTREMES = {
        MIN, MIN + 1, MIN + 15, MIN + 16, -(1 << 28), -257, -256, -255, -17, -16, -15, -11, -10, -9,
        -3, -2, -1, 0, 1, 2, 3, 4, 8, 9, 10, 11, 14, 15, 16, 17, 239, 240, 254, 255, 256, 257,
        1 << 16, 1 << 28, 1 << 30, MAX - 15, MAX - 14, MAX - 1, MAX};

    private static final int[] NO_POINTS = {-1, 256, -2, 257, -256, 512, MIN, MIN + 1, MAX - 1, MAX};

    // ---- lists of corners, as x, y, x, y, .. ----

    private static final int[] EMPTY = {};
    private static final int[] ONE = {3, 4};
    private static final int[] TWO = {3, 4, 5, 7};
    private static final int[] TRIANGLE = {0, 0, 5, 0, 0, 5};
    private static final int[] LEAST = {0, 0, 1, 0, 0, 1};
    // The side from (0, 0) to (15, 14) passes the third corner as near as can be. Goes round right.
    private static final int[] THIN = {0, 0, 15, 14, 14, 13};
    private static final int[] SQUARE = {2, 2, 6, 2, 6, 6, 2, 6};
    private static final int[] WHOLE_GRID = {0, 0, 15, 0, 15, 15, 0, 15};
    private static final int[] NOTCHED = {0, 0, 8, 0, 8, 8, 4, 3, 0, 8};
    // Turns left at each of its ten corners.
    private static final int[] TEN_ROUND = {3, 0, 6, 0, 8, 1, 9, 3, 9, 6, 8, 8, 5, 8, 3, 7, 2, 5, 2, 2};
    private static final int[] TEN_ON_LINE =
        {0, 15, 1, 14, 2, 13, 3, 12, 4, 11, 5, 10, 6, 9, 7, 8, 8, 7, 9, 6};
    private static final int[] TEN_THE_SAME =
        {7, 7, 7, 7, 7, 7, 7, 7, 7, 7, 7, 7, 7, 7, 7, 7, 7, 7, 7, 7};
    private static final int[] BOW_TIE = {0, 0, 1, 1, 1, 0, 0, 1};
    // A triangle with a corner in the middle of each of its sides.
    private static final int[] TRIANGLE_OF_SIX = {0, 0, 2, 0, 4, 0, 2, 2, 0, 4, 0, 2};
    // The whole grid but for a gap from above that leaves no point inside.
    private static final int[] THIN_U = {0, 0, 15, 0, 15, 15, 14, 15, 14, 1, 1, 1, 1, 15, 0, 15};
    // Corner 1 is as little as can be on the one side, on the line itself, and on the other side.
    private static final int[] LEAST_DENT = {0, 0, 1, 1, 15, 14, 0, 15};
    private static final int[] STRAIGHT = {0, 0, 5, 5, 15, 15, 0, 15};
    private static final int[] LEAST_BULGE = {0, 0, 14, 13, 15, 14, 0, 15};

    // The line from (0, 10) to (14, 5) has its middle inside, and one side alone crosses it.
    private static final int[] HOOKED = {0, 0, 15, 0, 14, 5, 12, 1, 10, 10, 0, 10};

    private static final int[][] TOO_FEW = {EMPTY, ONE, TWO, {3, 4, 3, 4}};

    private static final int[][] SAME_POINT = {
        {0, 0, 0, 0, 5, 0, 0, 5},
        {0, 0, 5, 0, 0, 5, 0, 0},
        {0, 0, 4, 0, 2, 2, 4, 4, 0, 4, 2, 2},
        {0, 0, 5, 0, 0, 5, 0, 0, 5, 0, 0, 5},
        {7, 7, 7, 7, 7, 7},
        TEN_THE_SAME};

    private static final int[][] BACK_ALONG_A_SIDE = {
        {0, 0, 2, 2, 5, 5},
        {0, 0, 1, 0, 2, 0},
        {0, 0, 6, 0, 3, 0, 3, 3},
        {2, 0, 6, 0, 0, 0, 3, 5},
        {0, 0, 5, 0, 5, 5, 15, 15, 10, 10, 0, 9},
        TEN_ON_LINE};

    private static final int[][] OTHER_SIDES_MEET = {
        BOW_TIE,
        {0, 0, 4, 4, 4, 0, 0, 4},
        {0, 0, 9, 9, 9, 0, 8, 1, 1, 2},
        {0, 0, 8, 0, 8, 8, 4, 0, 0, 8},
        {0, 0, 8, 0, 8, 4, 6, 0, 2, 0, 0, 4},
        {0, 0, 6, 0, 6, 6, 8, 8, 8, 3},
        {5, 0, 8, 9, 0, 3, 10, 3, 2, 9},
        {0, 0, 15, 0, 15, 15, 14, 15, 14, 0, 1, 1, 1, 15, 0, 15}};

    private static final int[][] PROPER = {
        LEAST, THIN, TRIANGLE, SQUARE, WHOLE_GRID, NOTCHED, TEN_ROUND, TRIANGLE_OF_SIX, THIN_U,
        LEAST_DENT, STRAIGHT, LEAST_BULGE, HOOKED,
        {0, 0, 8, 0, 8, 8, 4, 1, 0, 8},
        {0, 0, 6, 0, 3, 1, 3, 3},
        {0, 0, 2, 0, 2, 2, 3, 2, 3, 0, 5, 0, 5, 5, 0, 5},
        {0, 0, 15, 14, 15, 15, 1, 2}};

    // ---- the frame ----

    private static int tests = 0;
    private static int wrong = 0;
    private static int wrongInTest = 0;
    private static String current = "";

    // No call ever throws, so an exception is a fault in every test.
    private static void test(String sentence, Runnable body) {
        current = sentence;
        wrongInTest = 0;
        tests++;
        try {
            body.run();
        } catch (RuntimeException | Error thrown) {
            fault("threw " + thrown);
        }
    }

    private static void fault(String text) {
        wrong++;
        wrongInTest++;
        if (wrongInTest <= 5) {
            System.out.println("[" + current + "] " + text);
        }
    }

    private static void due(String call, int got, int want) {
        if (got != want) {
            fault(call + " answered " + got + ", due is " + want);
        }
    }

    private static void due(String call, boolean got, boolean want) {
        if (got != want) {
            fault(call + " answered " + got + ", due is " + want);
        }
    }

    private static int at(int x, int y) {
        return 16 * y + x;
    }

    private static int size(int[] list) {
        return list.length / 2;
    }

    private static int pointOf(int[] list, int i) {
        return at(list[2 * i], list[2 * i + 1]);
    }

    private static GridPolygons polygon(int... list) {
        GridPolygons made = new GridPolygons();
        for (int i = 0; i < size(list); i++) {
            made.corner(pointOf(list, i));
        }
        return made;
    }

    private static String text(int[] list) {
        StringBuilder line = new StringBuilder();
        for (int i = 0; i < size(list); i++) {
            line.append("(").append(list[2 * i]).append(" ").append(list[2 * i + 1]).append(")");
        }
        return line.length() == 0 ? "no corner" : line.toString();
    }

    private static List<Integer> points(int... list) {
        List<Integer> points = new ArrayList<>();
        for (int i = 0; i < size(list); i++) {
            points.add(pointOf(list, i));
        }
        return points;
    }

    // Takes the corners out one by one, so it stands at the end of a case.
    private static void dueCorners(String after, GridPolygons x, List<Integer> want) {
        due("corners() after " + after, x.corners(), want.size());
        for (int i = 0; i < want.size(); i++) {
            due("corner " + i + " after " + after, x.remove(0), want.get(i));
        }
        due("remove(0) of no corner after " + after, x.remove(0), BAD_ARG);
    }

    // The same corners, starting at another one, in the same order (step 1) or the opposite one.
    private static int[] turned(int[] list, int first, int step) {
        int n = size(list);
        int[] made = new int[list.length];
        for (int k = 0; k < n; k++) {
            int from = Math.floorMod(first + step * k, n);
            made[2 * k] = list[2 * from];
            made[2 * k + 1] = list[2 * from + 1];
        }
        return made;
    }

    // Neither the first corner nor the way round decides whether a polygon is proper.
    private static void dueProper(int[] list, boolean want) {
        for (int first = 0; first < size(list); first++) {
            for (int step = -1; step <= 1; step += 2) {
                int[] made = turned(list, first, step);
                due("proper() of " + text(made), polygon(made).proper(), want);
            }
        }
    }

    private static int[] firstCorners(int[] list, int n) {
        return Arrays.copyOf(list, 2 * n);
    }

    private static List<int[]> improper() {
        List<int[]> all = new ArrayList<>();
        for (int[][] kind : new int[][][] {TOO_FEW, SAME_POINT, BACK_ALONG_A_SIDE, OTHER_SIDES_MEET}) {
            all.addAll(List.of(kind));
        }
        return all;
    }

    private static void dueNoneIfImproper(String call, ToIntFunction<GridPolygons> ask) {
        for (int[] list : improper()) {
            due(call + " of " + text(list), ask.applyAsInt(polygon(list)), NONE);
        }
    }

    // All that can be told of an object; it is empty afterwards. Some 60 calls.
    private static String tell(GridPolygons x) {
        StringBuilder told = new StringBuilder();
        told.append(answers(x));
        for (int point = 0; point < 256; point += 17) {
            told.append(" ").append(x.where(point));
        }
        told.append(" ").append(x.cut(0, 2)).append(x.cut(1, 3)).append(x.cut(2, 0));
        told.append(" ").append(x.move(1, 0)).append(" ").append(x.reverse());
        told.append(" ").append(x.corner(203)).append(" ").append(x.insert(1, 77));
        told.append(" ").append(answers(x));
        int n = x.corners();
        for (int i = 0; i <= n; i++) {
            told.append(" ").append(x.remove(0));
        }
        return told.toString();
    }

    private static String answers(GridPolygons x) {
        return x.corners() + " " + x.proper() + " " + x.area() + " " + x.left() + " " + x.edge() + " "
            + x.inside() + " " + x.convex() + " " + x.cuts() + " " + x.tilings() + " " + x.hull() + " "
            + x.hullArea() + " " + x.widest();
    }

    // Later calls on the object answer as they do on a twin that never had the refused call.
    private static void dueRefused(int[] list, String call, ToIntFunction<GridPolygons> refused, int code) {
        GridPolygons x = polygon(list);
        due(call + " of " + text(list), refused.applyAsInt(x), code);
        String told = tell(x);
        String want = tell(polygon(list));
        if (!told.equals(want)) {
            fault("after " + call + " of " + text(list) + ": " + told + ", due is " + want);
        }
        GridPolygons other = polygon(list);
        refused.applyAsInt(other);
        dueCorners(call, other, points(list));
    }

    // ---- what it is, and terms ----

    // 46 times 11 calls and 6 more: the last one is the 512th.
    private static void goodForAllOf512Calls() {
        GridPolygons x = new GridPolygons();
        for (int round = 0; round < 46; round++) {
            due("corner(0)", x.corner(0), 0);
            due("corner(5)", x.corner(5), 1);
            due("corner(85)", x.corner(at(5, 5)), 2);
            due("insert(3, 80)", x.insert(3, at(0, 5)), 4);
            due("tilings()", x.tilings(), 2);
            due("keep(2, 0)", x.keep(2, 0), 3);
            due("area()", x.area(), 25);
            due("reverse()", x.reverse(), 3);
            due("left()", x.left(), false);
            due("remove(1)", x.remove(1), 0);
            x.clear();
        }
        for (int k = 0; k < 3; k++) {
            due("corner(255)", x.corner(255), k);
        }
        due("widest()", x.widest(), 0);
        due("corners()", x.corners(), 3);
        due("remove(2)", x.remove(2), 255);
    }

    private static void pointsGoFrom0To255() {
        for (int y = 0; y <= 15; y++) {
            for (int x = 0; x <= 15; x++) {
                GridPolygons two = polygon(0, 0);
                due("corner", two.corner(16 * y + x), 1);
                due("widest() of (0, 0) and " + text(new int[] {x, y}), two.widest(), x * x + y * y);
                due("remove(1)", two.remove(1), 16 * y + x);
            }
        }
        GridPolygons rowEnds = polygon(15, 0, 0, 1);
        due("widest() of the points 15 and 16", rowEnds.widest(), 226);
    }

    private static void atMostTenCorners() {
        GridPolygons appended = new GridPolygons();
        GridPolygons putIn = new GridPolygons();
        for (int k = 0; k < 12; k++) {
            due("corner number " + k, appended.corner(k), k < 10 ? k : FULL);
            due("insert number " + k, putIn.insert(0, k), k < 10 ? k + 1 : FULL);
        }
        due("corners() appended", appended.corners(), 10);
        due("corners() put in", putIn.corners(), 10);
    }

    private static void lastAndFirstAreNeighbours() {
        for (int n = 3; n <= 10; n++) {
            GridPolygons x = polygon(firstCorners(TEN_ROUND, n));
            due(n + ": cut(0, last)", x.cut(0, n - 1), false);
            due(n + ": cut(last, 0)", x.cut(n - 1, 0), false);
            due(n + ": keep(last, 0)", x.keep(n - 1, 0), NONE);
            due(n + ": they are a side of a tiling's triangle", x.tilings() > 0, true);
            for (int i = 0; i + 1 < n; i++) {
                due(n + ": cut(" + i + ", next)", x.cut(i, i + 1), false);
                due(n + ": cut(next, " + i + ")", x.cut(i + 1, i), false);
            }
        }
    }

    private static void othersAreNoNeighbours() {
        for (int n = 4; n <= 10; n++) {
            GridPolygons x = polygon(firstCorners(TEN_ROUND, n));
            due(n + ": cut(last, 1)", x.cut(n - 1, 1), true);
            due(n + ": cut(1, last)", x.cut(1, n - 1), true);
            due(n + ": cut(last but one, 0)", x.cut(n - 2, 0), true);
            for (int i = 0; i + 2 < n; i++) {
                due(n + ": cut(" + i + ", next but one)", x.cut(i, i + 2), true);
            }
        }
    }

    private static void aSideGoesFromTheLastToTheFirst() {
        GridPolygons x = polygon(TRIANGLE);
        for (int y = 0; y <= 5; y++) {
            due("where on the last side", x.where(at(0, y)), 0);
        }
        due("edge()", x.edge(), 15);
        due("only the last side crosses", polygon(0, 0, 6, 0, 6, 6, 8, 8, 8, 3).proper(), false);
    }

    private static void properNeedsThreeCorners() {
        for (int[] list : TOO_FEW) {
            due("proper() of " + text(list), polygon(list).proper(), false);
        }
        dueProper(LEAST, true);
        dueProper(TEN_ROUND, true);
        GridPolygons x = polygon(TRIANGLE);
        x.remove(2);
        due("proper() when one of three is gone", x.proper(), false);
    }

    private static void properHasNoPointTwice() {
        for (int[] list : SAME_POINT) {
            dueProper(list, false);
        }
        for (int i = 0; i < 10; i++) {
            for (int j = 0; j < 10; j++) {
                GridPolygons x = polygon(TEN_ROUND);
                x.remove(j);
                x.insert(j, pointOf(TEN_ROUND, i));
                due("proper() with corner " + j + " on corner " + i, x.proper(), i == j);
            }
        }
    }

    private static void properHasNoSideBackAlongTheNext() {
        for (int[] list : BACK_ALONG_A_SIDE) {
            dueProper(list, false);
        }
        dueProper(new int[] {0, 0, 6, 0, 3, 1, 3, 3}, true);
        dueProper(THIN, true);
    }

    private static void properMayHaveAStraightCorner() {
        dueProper(STRAIGHT, true);
        dueProper(TRIANGLE_OF_SIX, true);
        dueProper(new int[] {0, 0, 1, 0, 2, 0, 3, 0, 4, 0, 5, 0, 6, 0, 7, 0, 15, 0, 0, 15}, true);
    }

    private static void properHasOtherSidesApart() {
        for (int[] list : OTHER_SIDES_MEET) {
            dueProper(list, false);
        }
        for (int[] list : PROPER) {
            dueProper(list, true);
        }
    }

    private static void touchingIsHavingAPointInCommon() {
        for (int y = 0; y <= 2; y++) {
            dueProper(new int[] {0, 0, 8, 0, 8, 8, 4, y, 0, 8}, y > 0);
            dueProper(new int[] {0, 8, 0, 0, 4, 8 - y, 8, 0, 8, 8}, y > 0);
        }
        // The end of a side lies on a slanting one, or as near to it as can be.
        dueProper(new int[] {0, 0, 14, 14, 5, 14, 7, 7, 0, 14}, false);
        dueProper(new int[] {0, 0, 15, 14, 5, 15, 1, 1, 0, 14}, true);
        dueProper(new int[] {0, 0, 15, 14, 5, 15, 14, 13, 0, 14}, false);
    }

    private static void pointsOnSidesAreEdge() {
        GridPolygons grid = polygon(WHOLE_GRID);
        for (int k = 0; k <= 15; k++) {
            due("lowest side", grid.where(at(k, 0)), 0);
            due("highest side", grid.where(at(k, 15)), 0);
            due("left side", grid.where(at(0, k)), 0);
            due("right side", grid.where(at(15, k)), 0);
        }
        for (int k = 1; k <= 14; k++) {
            due("next to the lowest side", grid.where(at(k, 1)), 1);
            due("next to the highest side", grid.where(at(k, 14)), 1);
            due("next to the left side", grid.where(at(1, k)), 1);
            due("next to the right side", grid.where(at(14, k)), 1);
        }
    }

    private static void leftIsLeftWhenYGrowsUpwards() {
        due("(0 0) (1 0) (0 1)", polygon(LEAST).left(), true);
        due("(0 0) (0 1) (1 0)", polygon(0, 0, 0, 1, 1, 0).left(), false);
        for (int first = 0; first < 3; first++) {
            due("thin", polygon(turned(THIN, first, 1)).left(), false);
            due("thin, back", polygon(turned(THIN, first, -1)).left(), true);
        }
        for (int first = 0; first < 8; first++) {
            due("a thin U", polygon(turned(THIN_U, first, 1)).left(), true);
            due("a thin U, back", polygon(turned(THIN_U, first, -1)).left(), false);
        }
    }

    // A notch from above whose lowest point goes over all points near both long lines, so that it
    // touches them in their middle and elsewhere.
    private static void aCutTouchesNoSide() {
        for (int k = 1; k <= 7; k++) {
            for (int y = 1; y <= 7; y++) {
                GridPolygons x = polygon(0, 0, 8, 0, 8, 8, k, y, 0, 8);
                String notch = " with a notch to " + text(new int[] {k, y});
                due("cut(0, 2)" + notch, x.cut(0, 2), y > k);
                due("cut(1, 4)" + notch, x.cut(1, 4), k + y > 8);
                due("cut(0, 3)" + notch, x.cut(0, 3), true);
                due("cut(3, 1)" + notch, x.cut(3, 1), true);
            }
        }
    }

    private static void aCutIsNotEdge() {
        due("cut(0, 2) past a straight corner", polygon(STRAIGHT).cut(0, 2), false);
        GridPolygons line = polygon(0, 0, 1, 0, 3, 0, 8, 0, 0, 8);
        due("cut(0, 2)", line.cut(0, 2), false);
        due("cut(1, 3)", line.cut(1, 3), false);
        due("cut(0, 3)", line.cut(0, 3), false);
        due("cut(3, 0)", line.cut(3, 0), false);
        GridPolygons partly = polygon(0, 4, 4, 4, 6, 0, 8, 4, 12, 4, 12, 8, 0, 8);
        due("partly edge, cut(0, 3)", partly.cut(0, 3), false);
        due("partly edge, cut(1, 4)", partly.cut(1, 4), false);
        due("inside alone, cut(1, 3)", partly.cut(1, 3), true);
    }

    private static void aCutIsNotOutside() {
        due("cut(2, 4) over a notch", polygon(NOTCHED).cut(2, 4), false);
        due("cut(4, 2) over a notch", polygon(NOTCHED).cut(4, 2), false);
        due("cut(0, 2) past the least dent", polygon(LEAST_DENT).cut(0, 2), false);
        due("cut(2, 0) past the least dent", polygon(LEAST_DENT).cut(2, 0), false);
        due("cut(0, 2) past the least bulge", polygon(LEAST_BULGE).cut(0, 2), true);
        due("cut(2, 0) past the least bulge", polygon(LEAST_BULGE).cut(2, 0), true);
        GridPolygons partly = polygon(0, 0, 12, 0, 15, 3, 15, 8, 8, 1, 0, 2);
        due("partly outside", partly.cut(5, 2), false);
    }

    // Whichever number the one side has that crosses the line.
    private static void aCutIsNotPartlyOutside() {
        for (int first = 0; first < 6; first++) {
            for (int step = -1; step <= 1; step += 2) {
                int[] list = turned(HOOKED, first, step);
                int left = Math.floorMod(step * (5 - first), 6);
                int hook = Math.floorMod(step * (2 - first), 6);
                int dent = Math.floorMod(step * (3 - first), 6);
                due("cut from (0, 10) to (14, 5) of " + text(list), polygon(list).cut(left, hook), false);
                due("cut from (14, 5) to (0, 10) of " + text(list), polygon(list).cut(hook, left), false);
                due("cut from (0, 10) to (12, 1) of " + text(list), polygon(list).cut(left, dent), true);
                due("cut from (12, 1) to (0, 10) of " + text(list), polygon(list).cut(dent, left), true);
            }
        }
    }

    private static void cutsOfATilingDoNotCross() {
        due("tilings() of a square", polygon(SQUARE).tilings(), 2);
        due("tilings() of five round", polygon(firstCorners(TEN_ROUND, 5)).tilings(), 5);
    }

    private static void threeCornersHaveTheEmptyTiling() {
        due("tilings() of the least triangle", polygon(LEAST).tilings(), 1);
        due("tilings() of a thin triangle", polygon(THIN).tilings(), 1);
        due("cuts() of the least triangle", polygon(LEAST).cuts(), 0);
        GridPolygons x = polygon(SQUARE);
        x.keep(0, 2);
        due("tilings() of a kept triangle", x.tilings(), 1);
    }

    private static void hullCornersAreNotBetweenOthers() {
        due("hull() of a triangle of six", polygon(TRIANGLE_OF_SIX).hull(), 3);
        due("hull() with a straight corner", polygon(STRAIGHT).hull(), 3);
        due("hull() with the least dent", polygon(LEAST_DENT).hull(), 3);
        due("hull() with the least bulge", polygon(LEAST_BULGE).hull(), 4);
        due("hull() of a thin U", polygon(THIN_U).hull(), 4);
        due("hull() with a corner twice", polygon(0, 0, 4, 0, 0, 4, 0, 0).hull(), 3);
        due("hull() with an inner point twice", polygon(1, 1, 0, 0, 1, 1, 4, 0, 0, 4).hull(), 3);
    }

    // ---- no call ever throws; a refused call answers the code named and changes nothing ----

    private static List<int[]> states() {
        List<int[]> all = improper();
        for (int n = 3; n <= 10; n++) {
            all.add(firstCorners(TEN_ROUND, n));
        }
        all.addAll(List.of(PROPER));
        return all;
    }

    private static boolean isPoint(int point) {
        return point >= 0 && point <= 255;
    }

    private static void dueRangesOfOne(int[] list, int a) {
        int n = size(list);
        boolean isProper = polygon(list).proper();
        String of = "(" + a + ") of " + text(list);
        due("corner" + of, polygon(list).corner(a), !isPoint(a) ? BAD_ARG : n == 10 ? FULL : n);
        due("remove" + of, polygon(list).remove(a), a < 0 || a >= n ? BAD_ARG : pointOf(list, a));
        boolean isNone = polygon(list).where(a) == NONE;
        due("where" + of + " is NONE", isNone, !isProper || !isPoint(a));
    }

    private static void dueRangesOfTwo(int[] list, int a, int b) {
        int n = size(list);
        boolean isProper = polygon(list).proper();
        String of = "(" + a + ", " + b + ") of " + text(list);
        boolean isBad = !isPoint(b) || a < 0 || a > n;
        due("insert" + of, polygon(list).insert(a, b), isBad ? BAD_ARG : n == 10 ? FULL : n + 1);
        due("move" + of, polygon(list).move(a, b), leaves(list, a, b) ? BAD_ARG : n);
        boolean isCut = polygon(list).cut(a, b);
        boolean areCorners = a >= 0 && a < n && b >= 0 && b < n;
        if (!isProper || !areCorners) {
            due("cut" + of, isCut, false);
        }
        int kept = areCorners ? Math.floorMod(b - a, n) + 1 : NONE;
        due("keep" + of, polygon(list).keep(a, b), isCut ? kept : NONE);
    }

    private static boolean leaves(int[] list, long dx, long dy) {
        for (int i = 0; i < size(list); i++) {
            long x = list[2 * i] + dx;
            long y = list[2 * i + 1] + dy;
            if (x < 0 || x > 15 || y < 0 || y > 15) {
                return true;
            }
        }
        return false;
    }

    private static void noCallThrows() {
        for (int[] list : states()) {
            answers(polygon(list));
            for (int a : EXTREMES) {
                dueRangesOfOne(list, a);
                for (int b : EXTREMES) {
                    dueRangesOfTwo(list, a, b);
                }
            }
        }
    }

    private static void refusedCornerChangesNothing() {
        for (int bad : NO_POINTS) {
            for (int[] list : new int[][] {EMPTY, ONE, SQUARE, BOW_TIE, TEN_ROUND, TEN_ON_LINE}) {
                dueRefused(list, "corner(" + bad + ")", x -> x.corner(bad), BAD_ARG);
            }
        }
        for (int point : new int[] {0, 119, 255}) {
            dueRefused(TEN_ROUND, "corner(" + point + ")", x -> x.corner(point), FULL);
            dueRefused(TEN_ON_LINE, "corner(" + point + ")", x -> x.corner(point), FULL);
        }
    }

    private static void refusedInsertChangesNothing() {
        for (int[] list : new int[][] {EMPTY, ONE, SQUARE, BOW_TIE, TEN_ROUND, TEN_ON_LINE}) {
            int n = size(list);
            for (int bad : NO_POINTS) {
                dueRefused(list, "insert(0, " + bad + ")", x -> x.insert(0, bad), BAD_ARG);
                dueRefused(list, "insert(last + 1, " + bad + ")", x -> x.insert(n, bad), BAD_ARG);
            }
            for (int bad : new int[] {-1, n + 1, 11, MIN, MAX}) {
                dueRefused(list, "insert(" + bad + ", 119)", x -> x.insert(bad, 119), BAD_ARG);
            }
        }
        for (int i = 0; i <= 10; i++) {
            int number = i;
            dueRefused(TEN_ROUND, "insert(" + i + ", 119)", x -> x.insert(number, 119), FULL);
        }
    }

    private static void refusedRemoveChangesNothing() {
        for (int[] list : new int[][] {EMPTY, ONE, SQUARE, BOW_TIE, TEN_ROUND, TEN_ON_LINE}) {
            for (int bad : new int[] {-1, size(list), 10, MIN, MAX}) {
                dueRefused(list, "remove(" + bad + ")", x -> x.remove(bad), BAD_ARG);
            }
        }
    }

    private static void refusedMoveChangesNothing() {
        for (int k : new int[] {-3, 10, 16, MIN, MAX}) {
            dueRefused(SQUARE, "move(" + k + ", 0)", x -> x.move(k, 0), BAD_ARG);
            dueRefused(SQUARE, "move(0, " + k + ")", x -> x.move(0, k), BAD_ARG);
            dueRefused(SQUARE, "move(1, " + k + ")", x -> x.move(1, k), BAD_ARG);
            dueRefused(SQUARE, "move(" + k + ", -1)", x -> x.move(k, -1), BAD_ARG);
        }
        dueRefused(TEN_ON_LINE, "move(1, 1)", x -> x.move(1, 1), BAD_ARG);
        dueRefused(TEN_ON_LINE, "move(-1, -1)", x -> x.move(-1, -1), BAD_ARG);
        dueRefused(TEN_ROUND, "move(7, 1)", x -> x.move(7, 1), BAD_ARG);
        dueRefused(TEN_ROUND, "move(1, -1)", x -> x.move(1, -1), BAD_ARG);
    }

    private static void refusedKeepChangesNothing() {
        for (int[] list : improper()) {
            dueRefused(list, "keep(0, 2)", x -> x.keep(0, 2), NONE);
            dueRefused(list, "keep(2, 0)", x -> x.keep(2, 0), NONE);
        }
        for (int[] list : PROPER) {
            int last = size(list) - 1;
            dueRefused(list, "keep(0, 1)", x -> x.keep(0, 1), NONE);
            dueRefused(list, "keep(1, 0)", x -> x.keep(1, 0), NONE);
            dueRefused(list, "keep(last, 0)", x -> x.keep(last, 0), NONE);
            dueRefused(list, "keep(0, last)", x -> x.keep(0, last), NONE);
            dueRefused(list, "keep(1, 1)", x -> x.keep(1, 1), NONE);
            dueRefused(list, "keep(0, last + 1)", x -> x.keep(0, last + 1), NONE);
            dueRefused(list, "keep(last + 1, 1)", x -> x.keep(last + 1, 1), NONE);
            dueRefused(list, "keep(-1, 1)", x -> x.keep(-1, 1), NONE);
            dueRefused(list, "keep(MAX, MIN)", x -> x.keep(MAX, MIN), NONE);
        }
        dueRefused(NOTCHED, "keep(0, 2), over the notch", x -> x.keep(0, 2), NONE);
        dueRefused(NOTCHED, "keep(2, 4), outside", x -> x.keep(2, 4), NONE);
        dueRefused(STRAIGHT, "keep(0, 2), edge", x -> x.keep(0, 2), NONE);
    }

    private static void questionsAnsweredByNoneChangeNothing() {
        for (int[] list : improper()) {
            dueRefused(list, "area()", GridPolygons::area, NONE);
            dueRefused(list, "edge()", GridPolygons::edge, NONE);
            dueRefused(list, "inside()", GridPolygons::inside, NONE);
            dueRefused(list, "where(17)", x -> x.where(17), NONE);
            dueRefused(list, "cuts()", GridPolygons::cuts, NONE);
            dueRefused(list, "tilings()", GridPolygons::tilings, NONE);
        }
        for (int[] list : PROPER) {
            dueRefused(list, "where(256)", x -> x.where(256), NONE);
            dueRefused(list, "where(-1)", x -> x.where(-1), NONE);
        }
        for (int[] list : new int[][] {EMPTY, ONE, TWO, {0, 0, 2, 2, 5, 5}, TEN_ON_LINE, TEN_THE_SAME}) {
            dueRefused(list, "hull()", GridPolygons::hull, NONE);
            dueRefused(list, "hullArea()", GridPolygons::hullArea, NONE);
        }
        dueRefused(EMPTY, "widest()", GridPolygons::widest, NONE);
        dueRefused(ONE, "widest()", GridPolygons::widest, NONE);
    }

    private static void theCodesAreTheDocuments() {
        due("BAD_ARG", GridPolygons.BAD_ARG, -1);
        due("FULL", GridPolygons.FULL, -2);
        due("NONE", GridPolygons.NONE, -1000);
    }

    // ---- promises 1 to 9 ----

    private static void aNewObjectHasNoCorner() {
        String want = "0 false -1000 false -1000 -1000 false -1000 -1000 -1000 -1000 -1000";
        String told = answers(new GridPolygons());
        if (!told.equals(want)) {
            fault("a new object answers " + told + ", due is " + want);
        }
        GridPolygons x = new GridPolygons();
        due("where(0)", x.where(0), NONE);
        due("cut(0, 0)", x.cut(0, 0), false);
        due("cut(0, 2)", x.cut(0, 2), false);
        due("keep(0, 0)", x.keep(0, 0), NONE);
        due("remove(0)", x.remove(0), BAD_ARG);
        due("move(0, 0)", x.move(0, 0), 0);
        due("reverse()", x.reverse(), 0);
        GridPolygons used = polygon(TEN_ROUND);
        due("corners() of a new one beside a full one", new GridPolygons().corners(), 0);
        due("corners() of the full one", used.corners(), 10);
    }

    private static void cornerTakes0To255() {
        GridPolygons x = new GridPolygons();
        for (int bad : NO_POINTS) {
            due("corner(" + bad + ")", x.corner(bad), BAD_ARG);
        }
        due("corner(0)", x.corner(0), 0);
        due("corner(255)", x.corner(255), 1);
        for (int bad : NO_POINTS) {
            due("corner(" + bad + ")", x.corner(bad), BAD_ARG);
        }
        dueCorners("corner", x, List.of(0, 255));
    }

    private static void cornerIsFullAtTen() {
        GridPolygons x = polygon(firstCorners(TEN_ROUND, 9));
        due("the tenth corner", x.corner(at(2, 2)), 9);
        due("the eleventh corner", x.corner(0), FULL);
        due("the eleventh corner again", x.corner(255), FULL);
        dueCorners("corner refused", x, points(TEN_ROUND));
    }

    private static void cornerTestsThePointFirst() {
        for (int bad : NO_POINTS) {
            due("corner(" + bad + ") with ten", polygon(TEN_ROUND).corner(bad), BAD_ARG);
        }
    }

    private static void cornerAnswersItsNumber() {
        GridPolygons x = new GridPolygons();
        for (int k = 0; k < 10; k++) {
            due("corner number " + k, x.corner(255 - k), k);
        }
        x.remove(0);
        due("corner after remove", x.corner(9), 9);
        x.clear();
        due("corner after clear", x.corner(9), 0);
    }

    private static void insertTakesPoints0To255() {
        GridPolygons x = new GridPolygons();
        for (int bad : NO_POINTS) {
            due("insert(0, " + bad + ")", x.insert(0, bad), BAD_ARG);
        }
        due("insert(0, 0)", x.insert(0, 0), 1);
        due("insert(0, 255)", x.insert(0, 255), 2);
        dueCorners("insert", x, List.of(255, 0));
    }

    private static void insertTakes0ToTheNumberOfCorners() {
        for (int n = 0; n <= 9; n++) {
            for (int i = -2; i <= n + 2; i++) {
                GridPolygons x = polygon(firstCorners(TEN_ROUND, n));
                List<Integer> want = points(firstCorners(TEN_ROUND, n));
                boolean isGood = i >= 0 && i <= n;
                due(n + " corners: insert(" + i + ", 119)", x.insert(i, 119), isGood ? n + 1 : BAD_ARG);
                if (isGood) {
                    want.add(i, 119);
                }
                dueCorners("insert(" + i + ", 119)", x, want);
            }
        }
    }

    private static void insertIsFullAtTen() {
        for (int i = 0; i <= 10; i++) {
            GridPolygons x = polygon(TEN_ROUND);
            due("insert(" + i + ", 0) with ten", x.insert(i, 0), FULL);
            dueCorners("insert(" + i + ", 0) with ten", x, points(TEN_ROUND));
        }
    }

    private static void insertTestsItsArgumentsFirst() {
        for (int bad : new int[] {-1, 11, MIN, MAX}) {
            due("insert(" + bad + ", 0) with ten", polygon(TEN_ROUND).insert(bad, 0), BAD_ARG);
        }
        for (int bad : NO_POINTS) {
            due("insert(0, " + bad + ") with ten", polygon(TEN_ROUND).insert(0, bad), BAD_ARG);
            due("insert(10, " + bad + ") with ten", polygon(TEN_ROUND).insert(10, bad), BAD_ARG);
            due("insert(11, " + bad + ") with ten", polygon(TEN_ROUND).insert(11, bad), BAD_ARG);
        }
    }

    private static void removeOfNoSuchCorner() {
        for (int n = 0; n <= 10; n++) {
            for (int bad : new int[] {-1, n, n + 1, 10, 11, MIN, MAX}) {
                GridPolygons x = polygon(firstCorners(TEN_ROUND, n));
                due(n + " corners: remove(" + bad + ")", x.remove(bad), BAD_ARG);
            }
        }
    }

    private static void removeAnswersItsPoint() {
        for (int n = 1; n <= 10; n++) {
            for (int i = 0; i < n; i++) {
                GridPolygons x = polygon(firstCorners(TEN_ROUND, n));
                List<Integer> want = points(firstCorners(TEN_ROUND, n));
                due(n + " corners: remove(" + i + ")", x.remove(i), want.remove(i));
                dueCorners("remove(" + i + ")", x, want);
            }
        }
        due("remove(0) of point 0", polygon(0, 0).remove(0), 0);
        due("remove(0) of point 255", polygon(15, 15).remove(0), 255);
    }

    private static void removeMakesRoom() {
        GridPolygons x = polygon(TEN_ROUND);
        due("corner with ten", x.corner(7), FULL);
        due("remove(0)", x.remove(0), at(3, 0));
        due("corner with nine", x.corner(7), 9);
        due("corner with ten again", x.corner(7), FULL);
    }

    private static void clearTakesAllOut() {
        GridPolygons full = polygon(TEN_ROUND);
        full.clear();
        due("corners()", full.corners(), 0);
        due("remove(0)", full.remove(0), BAD_ARG);
        due("widest()", full.widest(), NONE);
        for (int k = 0; k < 10; k++) {
            due("corner after clear", full.corner(k), k);
        }
        due("the eleventh after clear", full.corner(11), FULL);
        GridPolygons none = new GridPolygons();
        none.clear();
        none.clear();
        due("corners() after clear of none", none.corners(), 0);
        GridPolygons again = polygon(SQUARE);
        again.clear();
        again.corner(0);
        again.corner(5);
        due("proper() of two corners after clear", again.proper(), false);
        dueCorners("clear", again, List.of(0, 5));
    }

    private static void cornersGoFrom0To10() {
        GridPolygons x = new GridPolygons();
        for (int n = 0; n <= 10; n++) {
            due("corners()", x.corners(), n);
            x.corner(n);
        }
        due("corners() after the eleventh", x.corners(), 10);
        for (int n = 9; n >= 0; n--) {
            x.remove(n / 2);
            due("corners() after remove", x.corners(), n);
        }
        x.remove(0);
        due("corners() after remove of none", x.corners(), 0);
    }

    private static void moveEndsAtTheBorder() {
        int[] coordinates = {0, 1, 8, 14, 15};
        for (int x : coordinates) {
            for (int y : coordinates) {
                for (int dx = -17; dx <= 17; dx++) {
                    for (int dy = -17; dy <= 17; dy++) {
                        dueMoveOfOne(x, y, dx, dy);
                    }
                }
            }
        }
    }

    private static void dueMoveOfOne(int x, int y, int dx, int dy) {
        GridPolygons one = polygon(x, y);
        boolean stays = x + dx >= 0 && x + dx <= 15 && y + dy >= 0 && y + dy <= 15;
        String call = "move(" + dx + ", " + dy + ") of " + text(new int[] {x, y});
        due(call, one.move(dx, dy), stays ? 1 : BAD_ARG);
        due("the corner after " + call, one.remove(0), stays ? at(x + dx, y + dy) : at(x, y));
    }

    private static void moveDoesNotWrapAround() {
        for (int far : new int[] {MIN, MIN + 15, MAX, MAX - 14, 1 << 28, -(1 << 28), 1 << 30, 256, -256}) {
            for (int[] list : new int[][] {{0, 0}, {15, 15}, {8, 8}, SQUARE, TEN_ON_LINE}) {
                due("move(" + far + ", 0)", polygon(list).move(far, 0), BAD_ARG);
                due("move(0, " + far + ")", polygon(list).move(0, far), BAD_ARG);
                due("move(" + far + ", " + far + ")", polygon(list).move(far, far), BAD_ARG);
            }
        }
        due("from the end of a row to the next", polygon(15, 3).move(1, 0), BAD_ARG);
        due("from the end of a row to its start", polygon(15, 3).move(1, -1), BAD_ARG);
        due("a row for 16 points", polygon(5, 5).move(16, -1), BAD_ARG);
        due("16 points for a row", polygon(5, 5).move(-16, 1), BAD_ARG);
    }

    private static void moveIsRefusedIfOneLeaves() {
        int[][] borders = {{15, 5, 1, 0}, {0, 5, -1, 0}, {5, 15, 0, 1}, {5, 0, 0, -1}};
        for (int[] border : borders) {
            for (int i = 0; i < 10; i++) {
                List<Integer> want = new ArrayList<>();
                GridPolygons x = new GridPolygons();
                for (int k = 0; k < 10; k++) {
                    int point = k == i ? at(border[0], border[1]) : at(5, 5);
                    want.add(point);
                    x.corner(point);
                }
                due("move with corner " + i + " at the border", x.move(border[2], border[3]), BAD_ARG);
                due("move the other way", x.move(-border[2], -border[3]), 10);
                due("and back", x.move(border[2], border[3]), 10);
                dueCorners("move there and back", x, want);
            }
        }
    }

    private static void moveOfNoCornerLeavesNothing() {
        for (int dx : EXTREMES) {
            for (int dy : EXTREMES) {
                due("move(" + dx + ", " + dy + ") of none", new GridPolygons().move(dx, dy), 0);
            }
        }
    }

    private static void moveAnswersTheNumberOfCorners() {
        for (int n = 0; n <= 10; n++) {
            due("move(0, 0)", polygon(firstCorners(TEN_ROUND, n)).move(0, 0), n);
            due("move(6, 7)", polygon(firstCorners(TEN_ROUND, n)).move(6, 7), n);
        }
        GridPolygons x = polygon(WHOLE_GRID);
        due("move(0, 0) of the whole grid", x.move(0, 0), 4);
        due("move(1, 0) of the whole grid", x.move(1, 0), BAD_ARG);
        due("move(0, -1) of the whole grid", x.move(0, -1), BAD_ARG);
    }

    private static void reverseKeepsCorner0() {
        for (int n = 0; n <= 10; n++) {
            List<Integer> want = new ArrayList<>();
            for (int k = 0; k < n; k++) {
                want.add(pointOf(TEN_ROUND, k == 0 ? 0 : n - k));
            }
            GridPolygons x = polygon(firstCorners(TEN_ROUND, n));
            due("reverse() of " + n, x.reverse(), n);
            dueCorners("reverse() of " + n, x, want);
            GridPolygons twice = polygon(firstCorners(TEN_ROUND, n));
            twice.reverse();
            due("reverse() again of " + n, twice.reverse(), n);
            dueCorners("reverse() twice", twice, points(firstCorners(TEN_ROUND, n)));
        }
    }

    private static void keepGoesOnFromTheLastToCorner0() {
        for (int n = 4; n <= 10; n++) {
            for (int p = 0; p < n; p++) {
                for (int far = 2; far <= n - 2; far++) {
                    dueKeep(n, p, far);
                }
            }
        }
    }

    private static void dueKeep(int n, int p, int far) {
        int q = (p + far) % n;
        GridPolygons x = polygon(firstCorners(TEN_ROUND, n));
        List<Integer> want = new ArrayList<>();
        for (int k = 0; k <= far; k++) {
            want.add(pointOf(TEN_ROUND, (p + k) % n));
        }
        String call = n + " corners: keep(" + p + ", " + q + ")";
        due(call, x.keep(p, q), far + 1);
        due("proper() after " + call, x.proper(), true);
        dueCorners(call, x, want);
    }

    private static void keepOfAnImproperOne() {
        for (int[] list : improper()) {
            for (int p = -1; p <= size(list); p++) {
                for (int q = -1; q <= size(list); q++) {
                    due("keep of " + text(list), polygon(list).keep(p, q), NONE);
                }
            }
        }
    }

    private static void keepOfNoCut() {
        for (int[] list : PROPER) {
            int n = size(list);
            for (int p = -1; p <= n; p++) {
                for (int q = -1; q <= n; q++) {
                    boolean areNeighbours = Math.floorMod(p - q, n) <= 1 || Math.floorMod(q - p, n) <= 1;
                    boolean areCorners = p >= 0 && p < n && q >= 0 && q < n;
                    if (areNeighbours || !areCorners) {
                        due("keep(" + p + ", " + q + ") of " + text(list), polygon(list).keep(p, q), NONE);
                    }
                }
            }
        }
        due("over a notch", polygon(NOTCHED).keep(0, 2), NONE);
        due("outside", polygon(NOTCHED).keep(4, 2), NONE);
        due("along the edge", polygon(STRAIGHT).keep(2, 0), NONE);
    }

    private static void keepMakesRoom() {
        GridPolygons x = polygon(TEN_ROUND);
        due("keep(2, 0)", x.keep(2, 0), 9);
        due("corner with nine", x.corner(at(6, 0)), 9);
        due("corner with ten", x.corner(0), FULL);
        due("keep(0, 2)", x.keep(0, 2), 3);
        due("keep of a triangle", x.keep(0, 2), NONE);
        for (int k = 3; k < 10; k++) {
            due("corner after keep", x.corner(k), k);
        }
        due("the eleventh after keep", x.corner(0), FULL);
    }

    private static void keepPartsTheArea() {
        for (int q = 2; q <= 8; q++) {
            GridPolygons one = polygon(TEN_ROUND);
            GridPolygons other = polygon(TEN_ROUND);
            int kept = one.keep(0, q) + other.keep(q, 0);
            due("corners of both parts at " + q, kept, 12);
            due("area of both parts at " + q, one.area() + other.area(), 96);
        }
    }

    // ---- promises 10 to 23 ----

    private static void properFollowsEachChange() {
        GridPolygons x = polygon(SQUARE);
        due("a square", x.proper(), true);
        x.insert(1, at(2, 6));
        due("a corner on another", x.proper(), false);
        x.remove(1);
        due("without it", x.proper(), true);
        x.insert(1, at(4, 6));
        due("a corner on a side", x.proper(), false);
        x.remove(1);
        x.insert(1, at(4, 5));
        due("a corner near the side", x.proper(), true);
        x.reverse();
        due("reversed", x.proper(), true);
        x.move(-2, 9);
        due("moved to the border", x.proper(), true);
        x.clear();
        due("cleared", x.proper(), false);
    }

    private static void areaOfTheImproper() {
        dueNoneIfImproper("area()", GridPolygons::area);
    }

    private static void areaGoesFrom1To450() {
        for (int step = -1; step <= 1; step += 2) {
            due("the least", polygon(turned(LEAST, 0, step)).area(), 1);
            due("thin", polygon(turned(THIN, 0, step)).area(), 1);
            due("the whole grid", polygon(turned(WHOLE_GRID, 0, step)).area(), 450);
            due("a thin U", polygon(turned(THIN_U, 0, step)).area(), 86);
            due("the least dent", polygon(turned(LEAST_DENT, 0, step)).area(), 224);
            due("ten round", polygon(turned(TEN_ROUND, 0, step)).area(), 96);
        }
    }

    private static void leftOfTheImproper() {
        for (int[] list : improper()) {
            GridPolygons x = polygon(list);
            due("left() of " + text(list), x.left(), false);
            x.reverse();
            due("left() of the reverse of " + text(list), x.left(), false);
        }
    }

    private static void leftOrNotLeftWhenReversed() {
        for (int[] list : PROPER) {
            GridPolygons x = polygon(list);
            boolean before = x.left();
            x.reverse();
            due("left() of the reverse of " + text(list), x.left(), !before);
        }
    }

    private static void edgeOfTheImproper() {
        dueNoneIfImproper("edge()", GridPolygons::edge);
    }

    private static void edgeOfTheLeastAndTheGreatest() {
        due("the least", polygon(LEAST).edge(), 3);
        due("thin", polygon(THIN).edge(), 3);
        due("the whole grid", polygon(WHOLE_GRID).edge(), 60);
        due("a thin U", polygon(THIN_U).edge(), 88);
        due("straight corners", polygon(TRIANGLE_OF_SIX).edge(), 12);
        due("the same without them", polygon(0, 0, 4, 0, 0, 4).edge(), 12);
    }

    private static void insideOfTheImproper() {
        dueNoneIfImproper("inside()", GridPolygons::inside);
    }

    private static void insideGoesFrom0To196() {
        due("the least", polygon(LEAST).inside(), 0);
        due("thin", polygon(THIN).inside(), 0);
        due("a thin U", polygon(THIN_U).inside(), 0);
        due("the least with a point inside", polygon(0, 0, 2, 1, 1, 2).inside(), 1);
        due("the whole grid", polygon(WHOLE_GRID).inside(), 196);
    }

    private static void whereOfTheImproper() {
        for (int[] list : improper()) {
            for (int point : new int[] {-1, 0, 17, 119, 255, 256}) {
                due("where(" + point + ") of " + text(list), polygon(list).where(point), NONE);
            }
            for (int point : points(list)) {
                due("where of a corner of " + text(list), polygon(list).where(point), NONE);
            }
        }
    }

    private static void whereOfNoPoint() {
        for (int[] list : PROPER) {
            for (int bad : NO_POINTS) {
                due("where(" + bad + ") of " + text(list), polygon(list).where(bad), NONE);
            }
        }
    }

    private static void whereOfTheFirstAndTheLastPoint() {
        due("where(0) of the whole grid", polygon(WHOLE_GRID).where(0), 0);
        due("where(255) of the whole grid", polygon(WHOLE_GRID).where(255), 0);
        due("where(17) of the whole grid", polygon(WHOLE_GRID).where(17), 1);
        due("where(238) of the whole grid", polygon(WHOLE_GRID).where(238), 1);
        due("where(0) of a square", polygon(SQUARE).where(0), -1);
        due("where(255) of a square", polygon(SQUARE).where(255), -1);
    }

    private static void whereIsMinus1IfNeither() {
        GridPolygons x = polygon(0, 0, 15, 0, 15, 14, 1, 1);
        due("a corner", x.where(at(1, 1)), 0);
        due("as near as can be to a side, inside", x.where(at(14, 13)), 1);
        due("as near as can be to the side, outside", x.where(at(2, 2)), -1);
        due("on a side", x.where(at(15, 7)), 0);
        due("right above a corner", x.where(at(15, 15)), -1);
        GridPolygons u = polygon(THIN_U);
        due("in the gap", u.where(at(7, 7)), -1);
        due("in the gap, at the height of corners", u.where(at(7, 15)), -1);
        due("in the gap, next to its ground", u.where(at(7, 2)), -1);
        due("on the ground of the gap", u.where(at(7, 1)), 0);
        GridPolygons square = polygon(SQUARE);
        for (int k = 2; k <= 6; k++) {
            due("just left", square.where(at(1, k)), -1);
            due("just right", square.where(at(7, k)), -1);
            due("just below", square.where(at(k, 1)), -1);
            due("just above", square.where(at(k, 7)), -1);
        }
    }

    private static void convexOfTheImproper() {
        for (int[] list : improper()) {
            due("convex() of " + text(list), polygon(list).convex(), false);
        }
    }

    private static void convexEndsAtTheLeastDent() {
        for (int first = 0; first < 4; first++) {
            for (int step = -1; step <= 1; step += 2) {
                due("the least dent", polygon(turned(LEAST_DENT, first, step)).convex(), false);
                due("straight", polygon(turned(STRAIGHT, first, step)).convex(), true);
                due("the least bulge", polygon(turned(LEAST_BULGE, first, step)).convex(), true);
            }
        }
        due("three corners", polygon(THIN).convex(), true);
        due("ten corners", polygon(TEN_ROUND).convex(), true);
        due("straight corners on all sides", polygon(TRIANGLE_OF_SIX).convex(), true);
    }

    private static void cutOfTheImproper() {
        for (int[] list : improper()) {
            for (int p = -1; p <= size(list); p++) {
                for (int q = -1; q <= size(list); q++) {
                    due("cut(" + p + ", " + q + ") of " + text(list), polygon(list).cut(p, q), false);
                }
            }
        }
    }

    private static void cutOfNoSuchCorners() {
        for (int n = 3; n <= 10; n++) {
            GridPolygons x = polygon(firstCorners(TEN_ROUND, n));
            for (int bad : new int[] {-1, -2, n, n + 1, n + 2, -n, 10, 11, MIN, MAX}) {
                if (bad < 0 || bad >= n) {
                    due(n + " corners: cut(" + bad + ", 1)", x.cut(bad, 1), false);
                    due(n + " corners: cut(2, " + bad + ")", x.cut(2, bad), false);
                    due(n + " corners: cut(" + bad + ", " + bad + ")", x.cut(bad, bad), false);
                }
            }
        }
    }

    private static void cutOfACornerAndItself() {
        for (int[] list : PROPER) {
            for (int p = 0; p < size(list); p++) {
                due("cut(" + p + ", " + p + ") of " + text(list), polygon(list).cut(p, p), false);
            }
        }
    }

    private static void cutsOfTheImproper() {
        dueNoneIfImproper("cuts()", GridPolygons::cuts);
    }

    private static void cutsCountsEachPairOnce() {
        for (int n = 3; n <= 10; n++) {
            due(n + " round", polygon(firstCorners(TEN_ROUND, n)).cuts(), n * (n - 3) / 2);
        }
        due("the least dent", polygon(LEAST_DENT).cuts(), 1);
        due("straight", polygon(STRAIGHT).cuts(), 1);
        due("the least bulge", polygon(LEAST_BULGE).cuts(), 2);
    }

    private static void tilingsOfTheImproper() {
        dueNoneIfImproper("tilings()", GridPolygons::tilings);
    }

    private static void tilingsGoUpTo1430() {
        int[] ofConvex = {1, 2, 5, 14, 42, 132, 429, 1430};
        for (int n = 3; n <= 10; n++) {
            for (int step = -1; step <= 1; step += 2) {
                int[] list = turned(firstCorners(TEN_ROUND, n), n / 2, step);
                due(n + " round", polygon(list).tilings(), ofConvex[n - 3]);
            }
        }
        due("the least dent", polygon(LEAST_DENT).tilings(), 1);
        due("the least bulge", polygon(LEAST_BULGE).tilings(), 2);
    }

    private static void tilingsForgetsEarlierPolygons() {
        GridPolygons x = polygon(TEN_ROUND);
        due("ten round", x.tilings(), 1430);
        x.corner(0);
        due("after a refused corner", x.tilings(), 1430);
        due("keep(4, 0)", x.keep(4, 0), 7);
        due("seven round", x.tilings(), 42);
        x.clear();
        due("none", x.tilings(), NONE);
        for (int i = 0; i < 5; i++) {
            x.corner(pointOf(NOTCHED, i));
        }
        due("notched", x.tilings(), 1);
        x.remove(3);
        due("a square", x.tilings(), 2);
    }

    private static void hullNeedsThreeCorners() {
        for (int[] list : TOO_FEW) {
            due("hull() of " + text(list), polygon(list).hull(), NONE);
        }
        due("hull() of the least", polygon(LEAST).hull(), 3);
        due("hull() of a thin one", polygon(THIN).hull(), 3);
        due("hull() of ten round", polygon(TEN_ROUND).hull(), 10);
    }

    private static final int[][] DIRECTIONS = {{1, 0}, {0, 1}, {1, 1}, {-1, 1}};

    // Up to ten corners on a line in one of four directions.
    private static int[] onALine(int[] direction, int n) {
        int[] made = new int[2 * n];
        for (int k = 0; k < n; k++) {
            made[2 * k] = direction[0] < 0 ? 12 - k : 3 + k * direction[0];
            made[2 * k + 1] = 3 + k * direction[1];
        }
        return made;
    }

    private static void hullNeedsMoreThanALine() {
        for (int[] direction : DIRECTIONS) {
            for (int n = 1; n <= 10; n++) {
                int[] list = onALine(direction, n);
                due("hull() of " + text(list), polygon(list).hull(), NONE);
            }
            for (int i = 0; i < 10; i++) {
                GridPolygons x = polygon(onALine(direction, 9));
                x.insert(i, at(14, 3));
                boolean isOnLine = direction[1] == 0;
                due("hull() with corner " + i + " beside the line", x.hull(), isOnLine ? NONE : 3);
            }
        }
        due("two points of three corners", polygon(3, 3, 5, 4, 3, 3).hull(), NONE);
        due("one point of ten corners", polygon(TEN_THE_SAME).hull(), NONE);
        due("two points of four corners", polygon(3, 3, 5, 4, 3, 3, 5, 4).hull(), NONE);
    }

    private static void hullOfTheImproper() {
        due("hull() of a bow tie", polygon(BOW_TIE).hull(), 4);
        due("hullArea() of a bow tie", polygon(BOW_TIE).hullArea(), 2);
        due("hull() with a corner twice", polygon(SAME_POINT[0]).hull(), 3);
        due("hullArea() with a corner twice", polygon(SAME_POINT[0]).hullArea(), 25);
        due("hull() of there and back", polygon(0, 0, 6, 0, 3, 0, 3, 3).hull(), 3);
        due("hullArea() of there and back", polygon(0, 0, 6, 0, 3, 0, 3, 3).hullArea(), 18);
    }

    private static void hullAreaIsNoneAsForHull() {
        for (int[] list : states()) {
            GridPolygons x = polygon(list);
            due("hullArea() is NONE, " + text(list), x.hullArea() == NONE, x.hull() == NONE);
        }
        for (int[] direction : DIRECTIONS) {
            for (int n = 0; n <= 10; n++) {
                int[] list = onALine(direction, n);
                due("hullArea() of " + text(list), polygon(list).hullArea(), NONE);
            }
        }
        due("hullArea() of ten the same", polygon(TEN_THE_SAME).hullArea(), NONE);
        due("hullArea() of two points of three", polygon(3, 3, 5, 4, 3, 3).hullArea(), NONE);
    }

    private static void hullAreaGoesFrom1To450() {
        for (int step = -1; step <= 1; step += 2) {
            due("the least", polygon(turned(LEAST, 0, step)).hullArea(), 1);
            due("thin", polygon(turned(THIN, 0, step)).hullArea(), 1);
            due("the whole grid", polygon(turned(WHOLE_GRID, 0, step)).hullArea(), 450);
            due("the least dent", polygon(turned(LEAST_DENT, 0, step)).hullArea(), 225);
            due("a thin U", polygon(turned(THIN_U, 0, step)).hullArea(), 450);
        }
        due("the least at the far end", polygon(15, 15, 14, 15, 15, 14).hullArea(), 1);
    }

    private static void widestNeedsTwoCorners() {
        due("no corner", new GridPolygons().widest(), NONE);
        due("one corner", polygon(ONE).widest(), NONE);
        due("two corners", polygon(TWO).widest(), 13);
        GridPolygons x = polygon(TWO);
        x.remove(0);
        due("one of two", x.widest(), NONE);
    }

    private static void widestGoesFrom0To450() {
        due("twice the same", polygon(7, 7, 7, 7).widest(), 0);
        due("ten the same", polygon(TEN_THE_SAME).widest(), 0);
        due("next to each other", polygon(7, 7, 7, 8).widest(), 1);
        due("across", polygon(0, 0, 15, 15).widest(), 450);
        due("across the other way", polygon(0, 15, 15, 0).widest(), 450);
        due("along", polygon(0, 7, 15, 7).widest(), 225);
        for (int i = 0; i < 10; i++) {
            for (int j = i + 1; j < 10; j++) {
                GridPolygons x = polygon(firstCorners(TEN_THE_SAME, 8));
                x.insert(i, at(0, 7));
                x.insert(j, at(15, 7));
                due("widest() between " + i + " and " + j, x.widest(), 225);
            }
        }
    }

    private static void aTilingHasThreeCutsFewerThanCorners() {
        for (int[] list : PROPER) {
            for (int first = 0; first < size(list); first++) {
                due("ears of " + text(list), ears(polygon(turned(list, first, 1))), size(list) - 3);
            }
        }
    }

    // Cuts triangle after triangle off, as long as there is one.
    private static int ears(GridPolygons x) {
        int found = 0;
        for (int tries = 0; tries < 10; tries++) {
            int n = x.corners();
            for (int p = 0; p < n; p++) {
                if (x.corners() == n && x.cut(p, (p + 2) % n)) {
                    x.keep((p + 2) % n, p);
                    found++;
                }
            }
        }
        return found;
    }

    private static void straightCornersCountInTilings() {
        for (int step = -1; step <= 1; step += 2) {
            for (int first = 0; first < 4; first++) {
                due("one straight", polygon(turned(STRAIGHT, first, step)).tilings(), 1);
            }
            for (int first = 0; first < 5; first++) {
                int[] twoSides = {0, 0, 2, 0, 4, 0, 2, 2, 0, 4};
                due("two straight, on two sides", polygon(turned(twoSides, first, step)).tilings(), 2);
                int[] oneSide = {0, 0, 1, 0, 3, 0, 4, 0, 0, 4};
                due("two straight, on one side", polygon(turned(oneSide, first, step)).tilings(), 1);
                int[] square = {0, 0, 2, 0, 4, 0, 4, 4, 0, 4};
                due("a square with one straight", polygon(turned(square, first, step)).tilings(), 3);
            }
            for (int first = 0; first < 6; first++) {
                due("a triangle of six", polygon(turned(TRIANGLE_OF_SIX, first, step)).tilings(), 4);
            }
        }
        int[] sevenStraight = {0, 0, 1, 0, 2, 0, 3, 0, 4, 0, 5, 0, 6, 0, 7, 0, 15, 0, 0, 15};
        due("seven straight, on one side", polygon(sevenStraight).tilings(), 1);
        due("cuts() with seven straight", polygon(sevenStraight).cuts(), 7);
    }

    // ---- all of them ----

    private static void theTerms() {
        test("What it is: used for at most 512 calls", BoundariesTest::goodForAllOf512Calls);
        test("Terms: x and y from 0 to 15, 16 y + x (0 to 255)", BoundariesTest::pointsGoFrom0To255);
        test("Terms: a list of at most 10 corners", BoundariesTest::atMostTenCorners);
        test("Terms: neighbours .. and the last and the first one", BoundariesTest::lastAndFirstAreNeighbours);
        test("Terms: neighbours .. numbers that differ by 1", BoundariesTest::othersAreNoNeighbours);
        test("Terms: sides are the lines between neighbours", BoundariesTest::aSideGoesFromTheLastToTheFirst);
        test("Terms: proper if there are at least three corners", BoundariesTest::properNeedsThreeCorners);
        test("Terms: no two corners are the same point", BoundariesTest::properHasNoPointTwice);
        test("Terms: sides with a common corner have no other point in common",
            BoundariesTest::properHasNoSideBackAlongTheNext);
        test("Terms: .. the common corner may be straight", BoundariesTest::properMayHaveAStraightCorner);
        test("Terms: two other sides no point at all", BoundariesTest::properHasOtherSidesApart);
        test("Terms: no point at all, not even an end", BoundariesTest::touchingIsHavingAPointInCommon);
        test("Terms: points on its sides (the edge)", BoundariesTest::pointsOnSidesAreEdge);
        test("Terms: round left", BoundariesTest::leftIsLeftWhenYGrowsUpwards);
        test("Terms: a cut's points lie inside, none on a side it touches", BoundariesTest::aCutTouchesNoSide);
        test("Terms: a cut's points lie inside, not on the edge", BoundariesTest::aCutIsNotEdge);
        test("Terms: a cut's points lie inside, not outside", BoundariesTest::aCutIsNotOutside);
        test("Terms: a cut's points lie inside, all of them", BoundariesTest::aCutIsNotPartlyOutside);
        test("Terms: no two cuts of a tiling have a point in common", BoundariesTest::cutsOfATilingDoNotCross);
        test("Terms: with three corners none are needed", BoundariesTest::threeCornersHaveTheEmptyTiling);
        test("Terms: hull corners are not between two other points", BoundariesTest::hullCornersAreNotBetweenOthers);
        test("Terms: no call ever throws", BoundariesTest::noCallThrows);
        test("Terms: a refused corner changes nothing", BoundariesTest::refusedCornerChangesNothing);
        test("Terms: a refused insert changes nothing", BoundariesTest::refusedInsertChangesNothing);
        test("Terms: a refused remove changes nothing", BoundariesTest::refusedRemoveChangesNothing);
        test("Terms: a refused move changes nothing", BoundariesTest::refusedMoveChangesNothing);
        test("Terms: a refused keep changes nothing", BoundariesTest::refusedKeepChangesNothing);
        test("Terms: a question answered by NONE changes nothing",
            BoundariesTest::questionsAnsweredByNoneChangeNothing);
        test("Terms: the constants", BoundariesTest::theCodesAreTheDocuments);
    }

    private static void theChanges() {
        test("1: no corner", BoundariesTest::aNewObjectHasNoCorner);
        test("2: point not 0 to 255 answers BAD_ARG", BoundariesTest::cornerTakes0To255);
        test("2: FULL", BoundariesTest::cornerIsFullAtTen);
        test("2: tested in this order", BoundariesTest::cornerTestsThePointFirst);
        test("2: otherwise its number", BoundariesTest::cornerAnswersItsNumber);
        test("3: point not 0 to 255 answers BAD_ARG", BoundariesTest::insertTakesPoints0To255);
        test("3: i not 0 to the number of corners answers BAD_ARG",
            BoundariesTest::insertTakes0ToTheNumberOfCorners);
        test("3: FULL", BoundariesTest::insertIsFullAtTen);
        test("3: tested in this order", BoundariesTest::insertTestsItsArgumentsFirst);
        test("4: BAD_ARG if there is none", BoundariesTest::removeOfNoSuchCorner);
        test("4: otherwise its point", BoundariesTest::removeAnswersItsPoint);
        test("4: takes corner i out", BoundariesTest::removeMakesRoom);
        test("5: takes all corners out", BoundariesTest::clearTakesAllOut);
        test("6: the number of corners", BoundariesTest::cornersGoFrom0To10);
        test("7: would leave the grid", BoundariesTest::moveEndsAtTheBorder);
        test("7: would leave the grid, though a sum wraps around", BoundariesTest::moveDoesNotWrapAround);
        test("7: BAD_ARG if one would leave", BoundariesTest::moveIsRefusedIfOneLeaves);
        test("7: if one would leave: of none, none does", BoundariesTest::moveOfNoCornerLeavesNothing);
        test("7: otherwise the number of corners", BoundariesTest::moveAnswersTheNumberOfCorners);
        test("8: corner 0 staying corner 0", BoundariesTest::reverseKeepsCorner0);
        test("9: going on from the last one to corner 0", BoundariesTest::keepGoesOnFromTheLastToCorner0);
        test("9: NONE if the polygon is not proper", BoundariesTest::keepOfAnImproperOne);
        test("9: NONE if p and q are no cut", BoundariesTest::keepOfNoCut);
        test("9: only these corners stay", BoundariesTest::keepMakesRoom);
        test("9: up to q", BoundariesTest::keepPartsTheArea);
    }

    private static void theQuestions() {
        test("10: whether the polygon is proper", BoundariesTest::properFollowsEachChange);
        test("11: NONE if it is not proper", BoundariesTest::areaOfTheImproper);
        test("11: twice the area", BoundariesTest::areaGoesFrom1To450);
        test("12: whether it is proper", BoundariesTest::leftOfTheImproper);
        test("12: and goes round left", BoundariesTest::leftOrNotLeftWhenReversed);
        test("13: NONE if it is not proper", BoundariesTest::edgeOfTheImproper);
        test("13: points on the edge", BoundariesTest::edgeOfTheLeastAndTheGreatest);
        test("14: NONE if it is not proper", BoundariesTest::insideOfTheImproper);
        test("14: points inside", BoundariesTest::insideGoesFrom0To196);
        test("15: NONE if the polygon is not proper", BoundariesTest::whereOfTheImproper);
        test("15: NONE if the point is not 0 to 255", BoundariesTest::whereOfNoPoint);
        test("15: the points 0 and 255", BoundariesTest::whereOfTheFirstAndTheLastPoint);
        test("15: -1 if neither", BoundariesTest::whereIsMinus1IfNeither);
        test("16: whether it is proper", BoundariesTest::convexOfTheImproper);
        test("16: every straight line between two of its points", BoundariesTest::convexEndsAtTheLeastDent);
        test("17: false if it is not proper", BoundariesTest::cutOfTheImproper);
        test("17: false if there are no such corners", BoundariesTest::cutOfNoSuchCorners);
        test("17: one corner is no pair", BoundariesTest::cutOfACornerAndItself);
        test("18: NONE if it is not proper", BoundariesTest::cutsOfTheImproper);
        test("18: p and q count once", BoundariesTest::cutsCountsEachPairOnce);
        test("19: NONE if it is not proper", BoundariesTest::tilingsOfTheImproper);
        test("19: the number of tilings", BoundariesTest::tilingsGoUpTo1430);
        test("19: of this polygon, not of an earlier one", BoundariesTest::tilingsForgetsEarlierPolygons);
        test("20: NONE if there are not at least three corners", BoundariesTest::hullNeedsThreeCorners);
        test("20: NONE if all lie on one straight line", BoundariesTest::hullNeedsMoreThanALine);
        test("20: NONE for nothing else", BoundariesTest::hullOfTheImproper);
        test("21: NONE as for hull", BoundariesTest::hullAreaIsNoneAsForHull);
        test("21: twice the area of the hull", BoundariesTest::hullAreaGoesFrom1To450);
        test("22: NONE if there are fewer than two", BoundariesTest::widestNeedsTwoCorners);
        test("22: the greatest square of a distance", BoundariesTest::widestGoesFrom0To450);
        test("23: a tiling has n - 3 cuts", BoundariesTest::aTilingHasThreeCutsFewerThanCorners);
        test("23: also when a corner lies straight", BoundariesTest::straightCornersCountInTilings);
    }

    public static void main(String[] args) {
        theTerms();
        theChanges();
        theQuestions();
        String end = tests + " tests, " + wrong + " answers not as due";
        System.out.println(wrong == 0 ? "all answers are as due" : end);
        if (wrong != 0) {
            System.exit(1);
        }
    }
}
