/** Promises 14 to 16: courses, bearings that cross, ropes. */
public final class CourseTest {
    private static final Due DUE = new Due();

    public static void main(String[] args) {
        openSea();
        shores();
        courseRefusals();
        cross();
        ropes();
        ropesRefusals();
        DUE.end();
    }

    private static void course(MastPulpits x, int from, int to, int steps, int way) {
        DUE.is("course(" + from + ", " + to + ", 0)", x.course(from, to, 0), steps);
        DUE.is("course(" + from + ", " + to + ", 1)", x.course(from, to, 1), way);
    }

    private static void openSea() {
        MastPulpits x = new MastPulpits();
        course(x, 27, 27, 0, -6);
        course(x, 27, 19, 1, 0);
        course(x, 27, 20, 1, 1);
        course(x, 27, 28, 1, 2);
        course(x, 27, 36, 1, 3);
        course(x, 27, 35, 1, 4);
        course(x, 27, 34, 1, 5);
        course(x, 27, 26, 1, 6);
        course(x, 27, 18, 1, 7);
        course(x, 7, 8, 7, 5);
        course(x, 8, 7, 7, 1);
        course(x, 0, 7, 7, 2);
        course(x, 8, 15, 7, 1);
        course(x, 1, 57, 7, 3);
        course(x, 63, 0, 7, 7);
    }

    private static void shores() {
        MastPulpits x = new MastPulpits();
        int[] wall = {1, 9, 8};
        for (int cell : wall) {
            x.land(cell, 1);
        }
        course(x, 0, 2, -6, -6);
        course(x, 2, 0, -6, -6);
        course(x, 0, 0, 0, -6);
        course(x, 1, 1, -6, -6);
        course(x, 1, 2, -6, -6);
        course(x, 2, 1, -6, -6);
        course(x, 1, 9, -6, -6);
        x.land(9, 0);
        course(x, 0, 2, 2, 3);
        winding();
    }

    /** Walls of seven cells, open at their ends by turns: the way is as long as it can well be. */
    private static void winding() {
        MastPulpits x = new MastPulpits();
        x.ship(0, 1);
        for (int row = 1; row < 8; row += 2) {
            for (int column = 0; column < 7; column++) {
                x.land(8 * row + (row % 4 == 1 ? column : column + 1), 1);
            }
        }
        DUE.is("walls", x.told(1), 28);
        course(x, 0, 56, 28, 2);
        course(x, 56, 0, 28, 1);
        course(x, 0, 16, 14, 2);
        course(x, 63, 56, -6, -6);
    }

    private static void courseRefusals() {
        MastPulpits x = new MastPulpits();
        DUE.is("course(64, 0, 0)", x.course(64, 0, 0), -1);
        DUE.is("course(0, 64, 0)", x.course(0, 64, 0), -1);
        DUE.is("course(-1, 0, 2)", x.course(-1, 0, 2), -1);
        DUE.is("course(0, -1, 2)", x.course(0, -1, 2), -1);
        DUE.is("course(0, 1, 2)", x.course(0, 1, 2), -2);
        DUE.is("course(0, 1, -1)", x.course(0, 1, -1), -2);
        x.land(1, 1);
        DUE.is("course to land, what = 2", x.course(0, 1, 2), -2);
    }

    private static void crossed(int a, int d, int b, int e, int many, int least) {
        MastPulpits x = new MastPulpits();
        String call = "cross(" + a + ", " + d + ", " + b + ", " + e;
        DUE.is(call + ", 0)", x.cross(a, d, b, e, 0), many);
        DUE.is(call + ", 1)", x.cross(a, d, b, e, 1), least);
        x.ship(9, 1);
        x.land(27, 1);
        x.land(36, 1);
        DUE.is(call + ", 0), land", x.cross(a, d, b, e, 0), many);
    }

    private static void cross() {
        crossed(0, 2, 7, 6, 6, 1);
        crossed(0, 2, 3, 6, 2, 1);
        crossed(0, 2, 3, 2, 4, 4);
        crossed(3, 6, 0, 2, 2, 1);
        crossed(0, 3, 7, 5, 0, -6);
        crossed(0, 3, 6, 5, 1, 27);
        crossed(0, 3, 0, 3, 7, 9);
        crossed(0, 3, 0, 7, 0, -6);
        crossed(56, 0, 63, 6, 0, -6);
        crossed(56, 0, 7, 6, 1, 0);
        crossed(63, 0, 0, 2, 1, 7);
        crossed(8, 1, 9, 0, 1, 1);
        crossed(8, 2, 17, 0, 1, 9);
        crossed(7, 2, 8, 6, 0, -6);
        crossed(27, 4, 32, 2, 1, 35);
        MastPulpits x = new MastPulpits();
        DUE.is("cross(64, 8, 0, 0, 0)", x.cross(64, 8, 0, 0, 0), -1);
        DUE.is("cross(0, 8, 64, 0, 0)", x.cross(0, 8, 64, 0, 0), -1);
        DUE.is("cross(0, 0, -1, 0, 2)", x.cross(0, 0, -1, 0, 2), -1);
        DUE.is("cross(-1, 0, 0, 0, 0)", x.cross(-1, 0, 0, 0, 0), -1);
        DUE.is("cross(0, 8, 0, 0, 0)", x.cross(0, 8, 0, 0, 0), -2);
        DUE.is("cross(0, -1, 0, 0, 0)", x.cross(0, -1, 0, 0, 0), -2);
        DUE.is("cross(0, 0, 0, 8, 0)", x.cross(0, 0, 0, 8, 0), -2);
        DUE.is("cross(0, 0, 0, -1, 0)", x.cross(0, 0, 0, -1, 0), -2);
        DUE.is("cross(0, 0, 0, 0, 2)", x.cross(0, 0, 0, 0, 2), -2);
        DUE.is("cross(0, 0, 0, 0, -1)", x.cross(0, 0, 0, 0, -1), -2);
    }

    private static void cut(int row, int n, int l, int fewest, int most) {
        MastPulpits x = new MastPulpits();
        DUE.is("ropes(" + row + ", " + n + ", " + l + ", 0)", x.ropes(row, n, l, 0), fewest);
        DUE.is("ropes(" + row + ", " + n + ", " + l + ", 1)", x.ropes(row, n, l, 1), most);
    }

    private static void ropes() {
        cut(9, 1, 9, 1, 1);
        cut(1, 1, 30, 1, 1);
        cut(99, 2, 17, 2, 1);
        cut(99, 2, 18, 1, 2);
        cut(999999999, 9, 9, 9, 1);
        cut(999999999, 9, 30, 3, 3);
        cut(111111111, 9, 9, 1, 9);
        cut(123456789, 9, 30, 2, 7);
        cut(987654321, 9, 9, 5, 3);
        // To fill the first rope as full as can be, or the longest first, would take one rope more.
        cut(443322, 6, 9, 2, 3);
        cut(664433222, 9, 10, 4, 4);
        cut(553322, 6, 10, 2, 4);
        cut(64334, 5, 10, 2, 3);
    }

    private static void ropesRefusals() {
        MastPulpits x = new MastPulpits();
        DUE.is("n = 0", x.ropes(0, 0, 9, 0), -2);
        DUE.is("n = 0, a digit", x.ropes(1, 0, 9, 0), -2);
        DUE.is("n = 10", x.ropes(1111111111, 10, 9, 0), -2);
        DUE.is("n below 0", x.ropes(1, -1, 9, 0), -2);
        DUE.is("ten digits", x.ropes(1111111111, 9, 9, 0), -2);
        DUE.is("a digit more", x.ropes(123, 2, 9, 0), -2);
        DUE.is("a digit less", x.ropes(12, 3, 9, 0), -2);
        DUE.is("0 behind", x.ropes(120, 3, 9, 0), -2);
        DUE.is("0 within", x.ropes(102, 3, 9, 0), -2);
        DUE.is("0 alone", x.ropes(0, 1, 9, 0), -2);
        DUE.is("below 0", x.ropes(-12, 2, 9, 0), -2);
        DUE.is("least number", x.ropes(Integer.MIN_VALUE, 9, 9, 0), -2);
        DUE.is("l = 8", x.ropes(12, 2, 8, 0), -2);
        DUE.is("l = 31", x.ropes(12, 2, 31, 0), -2);
        DUE.is("what = 2", x.ropes(12, 2, 9, 2), -2);
        DUE.is("what = -1", x.ropes(12, 2, 9, -1), -2);
        DUE.is("and as due after all", x.ropes(12, 2, 9, 0), 1);
    }
}
