// Each promise of the document with ordinary inputs, the edges it names, and wrong inputs. The due
// answers were worked out by hand.
public final class PromisesTest {
    private static final int BAD_ARG = -1;
    private static final int FULL = -2;
    private static final int NONE = -1000;
    private static final int MIN = Integer.MIN_VALUE;
    private static final int MAX = Integer.MAX_VALUE;

    private static int wrong = 0;
    private static String promise = "";

    private static void due(String call, int got, int want) {
        if (got != want) {
            wrong++;
            System.out.println("promise " + promise + ": " + call + " answered " + got + ", due is " + want);
        }
    }

    private static void due(String call, boolean got, boolean want) {
        due(call, got ? 1 : 0, want ? 1 : 0);
    }

    private static int at(int x, int y) {
        return 16 * y + x;
    }

    // The corners, given as x, y, x, y, ..
    private static GridPolygons polygon(int... coordinates) {
        GridPolygons made = new GridPolygons();
        for (int i = 0; i < coordinates.length; i += 2) {
            made.corner(at(coordinates[i], coordinates[i + 1]));
        }
        return made;
    }

    // Takes the corners out one by one, so it stands at the end of a case.
    private static void dueCorners(String after, GridPolygons x, int... coordinates) {
        due("corners() after " + after, x.corners(), coordinates.length / 2);
        for (int i = 0; i < coordinates.length; i += 2) {
            due("corner " + i / 2 + " after " + after, x.remove(0), at(coordinates[i], coordinates[i + 1]));
        }
        due("remove(0) of no corner after " + after, x.remove(0), BAD_ARG);
    }

    private static GridPolygons square() {
        return polygon(2, 2, 6, 2, 6, 6, 2, 6);
    }

    // A square with a notch from above whose lowest point is (4, 3).
    private static GridPolygons notched() {
        return polygon(0, 0, 8, 0, 8, 8, 4, 3, 0, 8);
    }

    // Goes round left and turns left at each of its ten corners.
    private static GridPolygons tenRound() {
        return polygon(3, 0, 6, 0, 8, 1, 9, 3, 9, 6, 8, 8, 5, 8, 3, 7, 2, 5, 2, 2);
    }

    // A triangle with a corner in the middle of each of its sides.
    private static GridPolygons triangleOfSix() {
        return polygon(0, 0, 2, 0, 4, 0, 2, 2, 0, 4, 0, 2);
    }

    private static GridPolygons bowTie() {
        return polygon(0, 0, 1, 1, 1, 0, 0, 1);
    }

    private static GridPolygons ten() {
        GridPolygons made = new GridPolygons();
        for (int i = 0; i < 10; i++) {
            made.corner(at(i, 15 - i));
        }
        return made;
    }

    private static void dueTen(String after, GridPolygons x) {
        dueCorners(after, x, 0, 15, 1, 14, 2, 13, 3, 12, 4, 11, 5, 10, 6, 9, 7, 8, 8, 7, 9, 6);
    }

    private static void promise1() {
        promise = "1";
        GridPolygons x = new GridPolygons();
        due("corners()", x.corners(), 0);
        due("proper()", x.proper(), false);
        dueCorners("new", x);
        GridPolygons used = square();
        GridPolygons other = new GridPolygons();
        due("corners() of another object", other.corners(), 0);
        due("corners() of the one in use", used.corners(), 4);
        due("BAD_ARG", GridPolygons.BAD_ARG, BAD_ARG);
        due("FULL", GridPolygons.FULL, FULL);
        due("NONE", GridPolygons.NONE, NONE);
    }

    private static void promise2() {
        promise = "2";
        GridPolygons x = new GridPolygons();
        for (int bad : new int[] {-1, 256, MIN, MAX}) {
            due("corner(" + bad + ")", x.corner(bad), BAD_ARG);
        }
        due("corner(0)", x.corner(0), 0);
        due("corner(255)", x.corner(255), 1);
        due("corner(16)", x.corner(16), 2);
        due("corner(15)", x.corner(15), 3);
        due("corner(15) again", x.corner(15), 4);
        dueCorners("corner", x, 0, 0, 15, 15, 0, 1, 15, 0, 15, 0);
        GridPolygons full = new GridPolygons();
        for (int i = 0; i < 10; i++) {
            due("corner number " + i, full.corner(at(i, 15 - i)), i);
        }
        due("corner(0) with ten", full.corner(0), FULL);
        due("corner(256) with ten", full.corner(256), BAD_ARG);
        due("corner(-1) with ten", full.corner(-1), BAD_ARG);
        dueTen("corner refused", full);
    }

    private static void promise3() {
        promise = "3";
        GridPolygons x = new GridPolygons();
        due("insert(1, 0)", x.insert(1, 0), BAD_ARG);
        due("insert(-1, 0)", x.insert(-1, 0), BAD_ARG);
        due("insert(0, 5)", x.insert(0, 5), 1);
        due("insert(0, 6)", x.insert(0, 6), 2);
        due("insert(2, 7)", x.insert(2, 7), 3);
        due("insert(1, 255)", x.insert(1, 255), 4);
        for (int bad : new int[] {-1, 5, MIN, MAX}) {
            due("insert(" + bad + ", 0)", x.insert(bad, 0), BAD_ARG);
        }
        for (int bad : new int[] {-1, 256, MIN, MAX}) {
            due("insert(0, " + bad + ")", x.insert(0, bad), BAD_ARG);
        }
        dueCorners("insert", x, 6, 0, 15, 15, 5, 0, 7, 0);
        GridPolygons between = polygon(1, 2, 3, 4, 5, 6, 7, 8);
        due("insert(1, 169)", between.insert(1, at(9, 10)), 5);
        dueCorners("insert(1, 169)", between, 1, 2, 9, 10, 3, 4, 5, 6, 7, 8);
        GridPolygons full = ten();
        full.remove(9);
        due("insert(9, 105)", full.insert(9, at(9, 6)), 10);
        due("insert(0, 0) with ten", full.insert(0, 0), FULL);
        due("insert(10, 0) with ten", full.insert(10, 0), FULL);
        due("insert(11, 0) with ten", full.insert(11, 0), BAD_ARG);
        due("insert(-1, 0) with ten", full.insert(-1, 0), BAD_ARG);
        due("insert(0, 256) with ten", full.insert(0, 256), BAD_ARG);
        dueTen("insert refused", full);
    }

    private static void promise4() {
        promise = "4";
        GridPolygons x = square();
        for (int bad : new int[] {-1, 4, 10, MIN, MAX}) {
            due("remove(" + bad + ")", x.remove(bad), BAD_ARG);
        }
        due("remove(1)", x.remove(1), at(6, 2));
        due("remove(2)", x.remove(2), at(2, 6));
        due("remove(2) again", x.remove(2), BAD_ARG);
        dueCorners("remove", x, 2, 2, 6, 6);
        GridPolygons full = ten();
        due("remove(9) of ten", full.remove(9), at(9, 6));
        due("remove(0) of nine", full.remove(0), at(0, 15));
        dueCorners("both ends", full, 1, 14, 2, 13, 3, 12, 4, 11, 5, 10, 6, 9, 7, 8, 8, 7);
        GridPolygons highest = polygon(15, 15);
        due("remove(0) of point 255", highest.remove(0), 255);
    }

    private static void promise5() {
        promise = "5";
        GridPolygons x = ten();
        x.clear();
        due("corners()", x.corners(), 0);
        due("remove(0)", x.remove(0), BAD_ARG);
        x.clear();
        due("corner(9) after clear", x.corner(9), 0);
        dueCorners("clear", x, 9, 0);
    }

    private static void promise6() {
        promise = "6";
        GridPolygons x = new GridPolygons();
        due("corners()", x.corners(), 0);
        for (int i = 1; i <= 10; i++) {
            x.corner(3);
            due("corners()", x.corners(), i);
        }
        x.corner(3);
        due("corners() after a refused corner", x.corners(), 10);
        x.remove(4);
        due("corners() after remove", x.corners(), 9);
    }

    private static void promise7() {
        promise = "7";
        GridPolygons none = new GridPolygons();
        due("move(3, 3) of none", none.move(3, 3), 0);
        due("move(100, MIN) of none", none.move(100, MIN), 0);
        GridPolygons x = square();
        for (int bad : new int[] {-3, 10, -16, 16, MIN, MAX}) {
            due("move(" + bad + ", 0)", x.move(bad, 0), BAD_ARG);
            due("move(0, " + bad + ")", x.move(0, bad), BAD_ARG);
        }
        due("move(0, 0)", x.move(0, 0), 4);
        due("move(9, -2)", x.move(9, -2), 4);
        due("move(1, 0)", x.move(1, 0), BAD_ARG);
        due("move(0, -1)", x.move(0, -1), BAD_ARG);
        due("move(-11, 11)", x.move(-11, 11), 4);
        dueCorners("move", x, 0, 11, 4, 11, 4, 15, 0, 15);
        GridPolygons lastLeaves = polygon(1, 1, 2, 2, 0, 9);
        due("move(-1, 1)", lastLeaves.move(-1, 1), BAD_ARG);
        dueCorners("a refused move", lastLeaves, 1, 1, 2, 2, 0, 9);
        GridPolygons firstLeaves = polygon(0, 9, 1, 1, 2, 2);
        due("move(-1, 0)", firstLeaves.move(-1, 0), BAD_ARG);
        due("move(0, 7)", firstLeaves.move(0, 7), BAD_ARG);
        dueCorners("a refused move", firstLeaves, 0, 9, 1, 1, 2, 2);
        GridPolygons full = ten();
        due("move(6, 0) of ten", full.move(6, 0), 10);
        due("move(-6, 0) of ten", full.move(-6, 0), 10);
        dueTen("move of ten", full);
        GridPolygons improper = polygon(15, 0, 15, 0);
        due("move(-15, 15)", improper.move(-15, 15), 2);
        dueCorners("move of an improper one", improper, 0, 15, 0, 15);
    }

    private static void promise8() {
        promise = "8";
        due("reverse() of none", new GridPolygons().reverse(), 0);
        GridPolygons one = polygon(3, 4);
        due("reverse() of one", one.reverse(), 1);
        dueCorners("reverse of one", one, 3, 4);
        GridPolygons two = polygon(3, 4, 5, 6);
        due("reverse() of two", two.reverse(), 2);
        dueCorners("reverse of two", two, 3, 4, 5, 6);
        GridPolygons three = polygon(3, 4, 5, 6, 7, 9);
        due("reverse() of three", three.reverse(), 3);
        dueCorners("reverse of three", three, 3, 4, 7, 9, 5, 6);
        GridPolygons four = square();
        due("reverse() of four", four.reverse(), 4);
        dueCorners("reverse of four", four, 2, 2, 2, 6, 6, 6, 6, 2);
        GridPolygons full = ten();
        due("reverse() of ten", full.reverse(), 10);
        dueCorners("reverse of ten", full,
            0, 15, 9, 6, 8, 7, 7, 8, 6, 9, 5, 10, 4, 11, 3, 12, 2, 13, 1, 14);
    }

    private static void promise9() {
        promise = "9";
        due("keep(0, 0) of none", new GridPolygons().keep(0, 0), NONE);
        GridPolygons tie = bowTie();
        due("keep(0, 2) of a bow tie", tie.keep(0, 2), NONE);
        dueCorners("a refused keep", tie, 0, 0, 1, 1, 1, 0, 0, 1);
        GridPolygons x = notched();
        for (int bad : new int[] {-1, 5, 10, MIN, MAX}) {
            due("keep(" + bad + ", 3)", x.keep(bad, 3), NONE);
            due("keep(3, " + bad + ")", x.keep(3, bad), NONE);
        }
        due("keep(0, 1)", x.keep(0, 1), NONE);
        due("keep(0, 4)", x.keep(0, 4), NONE);
        due("keep(4, 0)", x.keep(4, 0), NONE);
        due("keep(3, 3)", x.keep(3, 3), NONE);
        due("keep(2, 4)", x.keep(2, 4), NONE);
        due("keep(0, 2)", x.keep(0, 2), NONE);
        due("keep(0, 3)", x.keep(0, 3), 4);
        dueCorners("keep(0, 3)", x, 0, 0, 8, 0, 8, 8, 4, 3);
        GridPolygons rest = notched();
        due("keep(3, 0)", rest.keep(3, 0), 3);
        dueCorners("keep(3, 0)", rest, 4, 3, 0, 8, 0, 0);
        GridPolygons wrapped = notched();
        due("keep(3, 1)", wrapped.keep(3, 1), 4);
        dueCorners("keep(3, 1)", wrapped, 4, 3, 0, 8, 0, 0, 8, 0);
        GridPolygons middle = tenRound();
        due("keep(2, 8)", middle.keep(2, 8), 7);
        dueCorners("keep(2, 8)", middle, 8, 1, 9, 3, 9, 6, 8, 8, 5, 8, 3, 7, 2, 5);
        GridPolygons most = tenRound();
        due("keep(8, 6)", most.keep(8, 6), 9);
        dueCorners("keep(8, 6)", most, 2, 5, 2, 2, 3, 0, 6, 0, 8, 1, 9, 3, 9, 6, 8, 8, 5, 8);
        GridPolygons triangle = polygon(0, 0, 5, 0, 0, 5);
        due("keep(0, 2) of a triangle", triangle.keep(0, 2), NONE);
        due("keep(2, 0) of a triangle", triangle.keep(2, 0), NONE);
        dueCorners("keep of a triangle", triangle, 0, 0, 5, 0, 0, 5);
    }

    private static void promise10() {
        promise = "10";
        due("no corner", new GridPolygons().proper(), false);
        due("one corner", polygon(1, 1).proper(), false);
        due("two corners", polygon(1, 1, 5, 5).proper(), false);
        due("a triangle", polygon(0, 0, 1, 0, 0, 1).proper(), true);
        due("a triangle to the right", polygon(0, 0, 0, 1, 1, 0).proper(), true);
        due("the whole grid", polygon(0, 0, 15, 0, 15, 15, 0, 15).proper(), true);
        due("three on a line", polygon(0, 0, 2, 2, 5, 5).proper(), false);
        due("three on a line, back", polygon(2, 2, 5, 5, 0, 0).proper(), false);
        due("a corner straight between", polygon(0, 0, 2, 0, 4, 0, 0, 4).proper(), true);
        due("the last corner straight between", polygon(4, 0, 0, 4, 0, 0, 2, 0).proper(), true);
        due("ten corners", tenRound().proper(), true);
        due("ten on a line", ten().proper(), false);
        due("neighbours the same", polygon(0, 0, 0, 0, 5, 0, 0, 5).proper(), false);
        due("last and first the same", polygon(0, 0, 5, 0, 0, 5, 0, 0).proper(), false);
        due("two others the same", polygon(0, 0, 4, 0, 2, 2, 4, 4, 0, 4, 2, 2).proper(), false);
        due("crossing off the grid", bowTie().proper(), false);
        due("crossing on the grid", polygon(0, 0, 4, 4, 4, 0, 0, 4).proper(), false);
        due("there and back", polygon(0, 0, 6, 0, 3, 0, 3, 3).proper(), false);
        due("there and back at corner 0", polygon(6, 0, 3, 0, 3, 3, 0, 0).proper(), false);
        due("there and farther back", polygon(2, 0, 6, 0, 0, 0, 3, 5).proper(), false);
        due("a corner on a side", polygon(0, 0, 8, 0, 8, 8, 4, 0, 0, 8).proper(), false);
        due("its last corner on a side", polygon(0, 0, 8, 0, 8, 8, 0, 8, 4, 0).proper(), false);
        due("corner 0 on a side", polygon(4, 0, 0, 8, 0, 0, 8, 0, 8, 8).proper(), false);
        due("corner 1 on a side", polygon(8, 8, 4, 0, 0, 8, 0, 0, 8, 0).proper(), false);
        due("a corner near a side", polygon(0, 0, 8, 0, 8, 8, 4, 1, 0, 8).proper(), true);
        due("a side along a side", polygon(0, 0, 8, 0, 8, 4, 6, 0, 2, 0, 0, 4).proper(), false);
        due("sides on one line apart", polygon(0, 0, 2, 0, 3, 2, 5, 0, 7, 0, 7, 5, 0, 5).proper(), true);
        due("parallel sides near", polygon(0, 0, 15, 14, 15, 15, 1, 2).proper(), true);
        due("crossing last side", polygon(0, 0, 6, 0, 6, 6, 8, 8, 8, 3).proper(), false);
    }

    private static void promise11() {
        promise = "11";
        due("no corner", new GridPolygons().area(), NONE);
        due("two corners", polygon(0, 0, 5, 5).area(), NONE);
        due("a bow tie", bowTie().area(), NONE);
        due("a flat triangle", polygon(0, 0, 1, 1, 2, 2).area(), NONE);
        due("the least triangle", polygon(0, 0, 1, 0, 0, 1).area(), 1);
        due("the least triangle to the right", polygon(0, 0, 0, 1, 1, 0).area(), 1);
        due("a square", square().area(), 32);
        due("a notched square", notched().area(), 128 - 40);
        due("the whole grid", polygon(0, 0, 15, 0, 15, 15, 0, 15).area(), 450);
        due("ten round", tenRound().area(), 96);
        GridPolygons back = tenRound();
        back.reverse();
        due("ten round to the right", back.area(), 96);
    }

    private static void promise12() {
        promise = "12";
        due("no corner", new GridPolygons().left(), false);
        due("a bow tie", polygon(0, 0, 9, 9, 9, 0, 8, 1, 1, 2).left(), false);
        due("a square there and on", polygon(0, 0, 4, 0, 4, 4, 0, 4, 0, 4).left(), false);
        due("a square", square().left(), true);
        due("a square to the right", polygon(2, 2, 2, 6, 6, 6, 6, 2).left(), false);
        due("a notched square", notched().left(), true);
        due("starting at the notch", polygon(4, 3, 0, 8, 0, 0, 8, 0, 8, 8).left(), true);
        due("starting at the notch, to the right", polygon(4, 3, 8, 8, 8, 0, 0, 0, 0, 8).left(), false);
    }

    private static void promise13() {
        promise = "13";
        due("no corner", new GridPolygons().edge(), NONE);
        due("a bow tie", bowTie().edge(), NONE);
        due("the least triangle", polygon(0, 0, 1, 0, 0, 1).edge(), 3);
        due("a square", square().edge(), 16);
        due("the whole grid", polygon(0, 0, 15, 0, 15, 15, 0, 15).edge(), 60);
        due("a notched square", notched().edge(), 8 + 8 + 1 + 1 + 8);
        due("ten round", tenRound().edge(), 18);
        due("a corner straight between", polygon(0, 0, 2, 0, 4, 0, 0, 4).edge(), 12);
        due("slanting sides", polygon(0, 0, 6, 4, 3, 9).edge(), 2 + 1 + 3);
    }

    private static void promise14() {
        promise = "14";
        due("no corner", new GridPolygons().inside(), NONE);
        due("a bow tie", bowTie().inside(), NONE);
        due("the least triangle", polygon(0, 0, 1, 0, 0, 1).inside(), 0);
        due("a square", square().inside(), 9);
        due("the whole grid", polygon(0, 0, 15, 0, 15, 15, 0, 15).inside(), 196);
        due("a notched square", notched().inside(), 32);
        due("ten round", tenRound().inside(), 40);
        GridPolygons back = tenRound();
        back.reverse();
        due("ten round to the right", back.inside(), 40);
    }

    private static void promise15() {
        promise = "15";
        due("no corner", new GridPolygons().where(0), NONE);
        due("a bow tie", bowTie().where(0), NONE);
        GridPolygons x = notched();
        for (int bad : new int[] {-1, 256, MIN, MAX}) {
            due("where(" + bad + ")", x.where(bad), NONE);
        }
        due("a bad point of a bow tie", bowTie().where(256), NONE);
        due("corner 0", x.where(at(0, 0)), 0);
        due("the notch", x.where(at(4, 3)), 0);
        due("on a level side", x.where(at(5, 0)), 0);
        due("on an upright side", x.where(at(8, 5)), 0);
        due("below the notch", x.where(at(4, 2)), 1);
        due("above the notch", x.where(at(4, 4)), -1);
        due("left at the height of the notch", x.where(at(1, 3)), 1);
        due("right at the height of the notch", x.where(at(7, 3)), 1);
        due("left at the height of two corners", x.where(at(15, 8)), -1);
        due("between two corners", x.where(at(4, 8)), -1);
        due("on the line of the lowest side", x.where(at(9, 0)), -1);
        due("above", x.where(at(4, 15)), -1);
        due("right", x.where(at(15, 3)), -1);
        GridPolygons diamond = polygon(5, 1, 9, 5, 5, 9, 1, 5);
        due("left of the diamond", diamond.where(at(0, 5)), -1);
        due("its middle", diamond.where(at(5, 5)), 1);
        due("its right corner", diamond.where(at(9, 5)), 0);
        due("right of it", diamond.where(at(10, 5)), -1);
        due("left of its lowest corner", diamond.where(at(1, 1)), -1);
        due("left of its highest corner", diamond.where(at(1, 9)), -1);
        due("on a slanting side", diamond.where(at(3, 7)), 0);
        GridPolygons steps = polygon(0, 0, 9, 0, 9, 6, 6, 6, 6, 3, 3, 3, 3, 6, 0, 6);
        due("left at the height of a level side", steps.where(at(1, 3)), 1);
        due("on the level side", steps.where(at(4, 3)), 0);
        due("right at the height of the level side", steps.where(at(8, 3)), 1);
        due("in the gap", steps.where(at(5, 5)), -1);
        due("in the gap at the top", steps.where(at(5, 6)), -1);
    }

    private static void promise16() {
        promise = "16";
        due("no corner", new GridPolygons().convex(), false);
        due("a flat triangle", polygon(0, 0, 1, 1, 2, 2).convex(), false);
        due("a bow tie", bowTie().convex(), false);
        due("twice round", polygon(0, 0, 4, 0, 0, 4, 0, 0, 4, 0, 0, 4).convex(), false);
        due("a star that turns left alone",
            polygon(5, 0, 8, 9, 0, 3, 10, 3, 2, 9).convex(), false);
        due("a triangle", polygon(0, 0, 1, 0, 0, 1).convex(), true);
        due("a triangle to the right", polygon(0, 0, 0, 1, 1, 0).convex(), true);
        due("a notched square", notched().convex(), false);
        due("a notch at corner 0", polygon(4, 3, 0, 8, 0, 0, 8, 0, 8, 8).convex(), false);
        due("a notch at corner 1", polygon(8, 8, 4, 3, 0, 8, 0, 0, 8, 0).convex(), false);
        due("ten round", tenRound().convex(), true);
        GridPolygons back = tenRound();
        back.reverse();
        due("ten round to the right", back.convex(), true);
        due("corners straight between", triangleOfSix().convex(), true);
        GridPolygons sixBack = triangleOfSix();
        sixBack.reverse();
        due("corners straight between, to the right", sixBack.convex(), true);
        due("bent in", polygon(0, 0, 8, 0, 8, 8, 4, 7, 0, 8).convex(), false);
    }

    private static void promise17() {
        promise = "17";
        due("no corner", new GridPolygons().cut(0, 2), false);
        due("a bow tie", polygon(0, 0, 9, 0, 0, 9, 9, 9).cut(0, 2), false);
        due("a triangle", polygon(0, 0, 5, 0, 0, 5).cut(0, 2), false);
        GridPolygons x = square();
        due("cut(0, 2)", x.cut(0, 2), true);
        due("cut(2, 0)", x.cut(2, 0), true);
        due("cut(1, 3)", x.cut(1, 3), true);
        due("neighbours", x.cut(1, 2), false);
        due("last and first", x.cut(3, 0), false);
        due("first and last", x.cut(0, 3), false);
        due("twice the same", x.cut(2, 2), false);
        for (int bad : new int[] {-1, 4, 10, -2, MIN, MAX}) {
            due("cut(" + bad + ", 1)", x.cut(bad, 1), false);
            due("cut(1, " + bad + ")", x.cut(1, bad), false);
        }
        GridPolygons notch = notched();
        due("outside", notch.cut(2, 4), false);
        due("over the notch", notch.cut(0, 2), false);
        due("over the notch", notch.cut(4, 1), false);
        due("to the notch", notch.cut(0, 3), true);
        due("to the notch", notch.cut(1, 3), true);
        GridPolygons touched = polygon(0, 0, 8, 0, 8, 8, 4, 4, 0, 8);
        due("touching a corner", touched.cut(0, 2), false);
        due("touching a corner", touched.cut(4, 1), false);
        due("to the corner", touched.cut(0, 3), true);
        GridPolygons six = triangleOfSix();
        due("along the edge", six.cut(0, 2), false);
        due("along the edge", six.cut(4, 0), false);
        due("middle to middle", six.cut(1, 3), true);
        due("middle to corner", six.cut(1, 4), true);
        GridPolygons unevenEdge = polygon(0, 0, 1, 0, 8, 0, 8, 8, 0, 8);
        due("along uneven sides", unevenEdge.cut(0, 2), false);
        GridPolygons long4 = polygon(0, 0, 3, 0, 5, 0, 8, 0, 4, 8);
        due("along three sides", long4.cut(0, 3), false);
        GridPolygons offGrid = polygon(0, 2, 0, 0, 15, 0, 15, 3, 8, 1);
        due("outside without a point of the grid", offGrid.cut(0, 3), false);
        GridPolygons pierced = polygon(0, 0, 12, 0, 15, 3, 15, 8, 8, 1, 0, 2);
        due("crossed off the grid", pierced.cut(5, 2), false);
        GridPolygons partlyAlong = polygon(0, 0, 4, 0, 4, 4, 8, 4, 8, 0, 12, 0, 12, 8, 0, 8);
        due("along sides with a gap", partlyAlong.cut(0, 5), false);
        due("over a gap", partlyAlong.cut(1, 4), false);
        GridPolygons partlyInside = polygon(0, 4, 4, 4, 6, 0, 8, 4, 12, 4, 12, 8, 0, 8);
        due("along a side and through inside", partlyInside.cut(0, 3), false);
        due("along two sides and through inside", partlyInside.cut(0, 4), false);
        due("between them through inside", partlyInside.cut(1, 3), true);
    }

    private static void promise18() {
        promise = "18";
        due("no corner", new GridPolygons().cuts(), NONE);
        due("a bow tie", bowTie().cuts(), NONE);
        due("a triangle", polygon(0, 0, 1, 0, 0, 1).cuts(), 0);
        due("a square", square().cuts(), 2);
        due("a notched square", notched().cuts(), 2);
        due("ten round", tenRound().cuts(), 35);
        due("a triangle of six", triangleOfSix().cuts(), 6);
        due("an arrow", polygon(0, 0, 4, 2, 8, 0, 4, 8).cuts(), 1);
    }

    private static void promise19() {
        promise = "19";
        due("no corner", new GridPolygons().tilings(), NONE);
        due("a bow tie", bowTie().tilings(), NONE);
        due("a triangle", polygon(0, 0, 1, 0, 0, 1).tilings(), 1);
        due("a square", square().tilings(), 2);
        due("an arrow", polygon(0, 0, 4, 2, 8, 0, 4, 8).tilings(), 1);
        due("a notched square", notched().tilings(), 1);
        int[] ofConvex = {1430, 429, 132, 42, 14, 5, 2, 1};
        GridPolygons x = tenRound();
        for (int i = 0; i < ofConvex.length; i++) {
            due(x.corners() + " round", x.tilings(), ofConvex[i]);
            x.remove(i % 3);
        }
        due("two corners", x.tilings(), NONE);
        GridPolygons back = tenRound();
        back.reverse();
        due("ten round to the right", back.tilings(), 1430);
        GridPolygons after = tenRound();
        after.tilings();
        due("keep(0, 5) after tilings", after.keep(0, 5), 6);
        due("tilings() of what is kept", after.tilings(), 14);
    }

    private static void promise20() {
        promise = "20";
        due("no corner", new GridPolygons().hull(), NONE);
        due("one corner", polygon(3, 3).hull(), NONE);
        due("two corners", polygon(3, 3, 4, 4).hull(), NONE);
        due("three the same", polygon(3, 3, 3, 3, 3, 3).hull(), NONE);
        due("two points of three", polygon(3, 3, 5, 4, 3, 3).hull(), NONE);
        due("three on a line", polygon(3, 3, 1, 1, 5, 5).hull(), NONE);
        due("ten on a line", ten().hull(), NONE);
        due("a triangle", polygon(0, 0, 1, 0, 0, 1).hull(), 3);
        due("a triangle to the right", polygon(0, 0, 0, 1, 1, 0).hull(), 3);
        due("a bow tie", bowTie().hull(), 4);
        due("a notched square", notched().hull(), 4);
        due("ten round", tenRound().hull(), 10);
        due("a triangle of six", triangleOfSix().hull(), 3);
        due("a point twice", polygon(0, 0, 4, 0, 0, 4, 0, 0).hull(), 3);
        due("all points twice", polygon(0, 0, 4, 0, 0, 4, 4, 0, 0, 0, 0, 4).hull(), 3);
        due("a point inside twice", polygon(1, 1, 0, 0, 1, 1, 4, 0, 0, 4).hull(), 3);
        due("a point on the edge twice", polygon(2, 0, 0, 0, 2, 0, 4, 0, 0, 4).hull(), 3);
        due("all but one on a line", polygon(0, 0, 1, 1, 2, 2, 3, 3, 3, 4).hull(), 3);
    }

    private static void promise21() {
        promise = "21";
        due("no corner", new GridPolygons().hullArea(), NONE);
        due("two corners", polygon(3, 3, 4, 4).hullArea(), NONE);
        due("two points of three", polygon(3, 3, 5, 4, 3, 3).hullArea(), NONE);
        due("ten on a line", ten().hullArea(), NONE);
        due("the least triangle", polygon(15, 15, 14, 15, 15, 14).hullArea(), 1);
        due("to the right", polygon(0, 0, 0, 1, 1, 0).hullArea(), 1);
        due("a bow tie", bowTie().hullArea(), 2);
        due("a notched square", notched().hullArea(), 128);
        due("ten round", tenRound().hullArea(), 96);
        due("a triangle of six", triangleOfSix().hullArea(), 16);
        due("all points twice", polygon(0, 0, 4, 0, 0, 4, 4, 0, 0, 0, 0, 4).hullArea(), 16);
        due("the whole grid", polygon(0, 0, 15, 15, 15, 0, 0, 15).hullArea(), 450);
    }

    private static void promise22() {
        promise = "22";
        due("no corner", new GridPolygons().widest(), NONE);
        due("one corner", polygon(3, 3).widest(), NONE);
        due("the same twice", polygon(3, 3, 3, 3).widest(), 0);
        due("two corners", polygon(3, 3, 4, 5).widest(), 5);
        due("the whole grid", polygon(0, 0, 15, 0, 15, 15, 0, 15).widest(), 450);
        due("the other way across", polygon(15, 0, 7, 7, 0, 15).widest(), 450);
        due("a bow tie", bowTie().widest(), 2);
        due("first and last", polygon(0, 0, 1, 0, 2, 0, 2, 9).widest(), 85);
        due("the last two", polygon(5, 5, 0, 5, 10, 5).widest(), 100);
        GridPolygons fewer = polygon(0, 0, 1, 0, 9, 9);
        fewer.remove(2);
        due("after remove", fewer.widest(), 1);
    }

    private static void promise23() {
        promise = "23";
        due("one corner straight between", polygon(0, 0, 2, 0, 4, 0, 0, 4).tilings(), 1);
        due("two straight on one side", polygon(0, 0, 1, 0, 3, 0, 4, 0, 0, 4).tilings(), 1);
        due("a triangle of six", triangleOfSix().tilings(), 4);
        due("a square with one straight", polygon(0, 0, 2, 0, 4, 0, 4, 4, 0, 4).tilings(), 3);
        // Of the five tilings of five corners round, those two go that join 4 and 1 past corner 0.
        due("a square with corner 0 straight", polygon(2, 0, 4, 0, 4, 4, 0, 4, 0, 0).tilings(), 3);
        GridPolygons x = polygon(0, 0, 2, 0, 4, 0, 0, 4);
        due("the only cut", x.cut(1, 3), true);
        due("cuts()", x.cuts(), 1);
    }

    // Questions leave the corners as they are, also of an improper polygon.
    private static void questionsChangeNothing() {
        promise = "10 to 22";
        GridPolygons x = notched();
        ask(x);
        dueCorners("the questions", x, 0, 0, 8, 0, 8, 8, 4, 3, 0, 8);
        GridPolygons tie = bowTie();
        ask(tie);
        dueCorners("the questions", tie, 0, 0, 1, 1, 1, 0, 0, 1);
    }

    private static void ask(GridPolygons x) {
        x.proper();
        x.area();
        x.left();
        x.edge();
        x.inside();
        x.where(20);
        x.where(-1);
        x.convex();
        x.cut(0, 3);
        x.cut(0, 99);
        x.cuts();
        x.tilings();
        x.hull();
        x.hullArea();
        x.widest();
    }

    public static void main(String[] args) {
        promise1();
        promise2();
        promise3();
        promise4();
        promise5();
        promise6();
        promise7();
        promise8();
        promise9();
        promise10();
        promise11();
        promise12();
        promise13();
        promise14();
        promise15();
        promise16();
        promise17();
        promise18();
        promise19();
        promise20();
        promise21();
        promise22();
        promise23();
        questionsChangeNothing();
        System.out.println(wrong == 0 ? "all answers are as due" : wrong + " answers are not as due");
        if (wrong != 0) {
            System.exit(1);
        }
    }
}
