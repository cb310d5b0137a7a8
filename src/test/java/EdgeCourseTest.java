/** Promises 14 to 16, and part 3 of the terms: each sentence that names an edge has a test of its own. */
public final class EdgeCourseTest {
    private static final Due DUE = new Due();

    public static void main(String[] args) {
        course();
        cross();
        ropes();
        DUE.end();
    }

    // ---- 14 course

    private static void course() {
        courseCells();
        courseWhat();
        courseToItself();
        courseByLand();
        noCourse();
        noCourseAroundTheSea();
        courseAlongTheBorders();
        leastWay();
        longestCourse();
        courseAsLandIsNow();
    }

    private static void courseIs(MastPulpits x, int from, int to, int steps, int way) {
        DUE.is("course(" + from + ", " + to + ", 0)", x.course(from, to, 0), steps);
        DUE.is("course(" + from + ", " + to + ", 1)", x.course(from, to, 1), way);
    }

    private static void courseCells() {
        DUE.sentence("UNKNOWN: both; OUTSIDE.");
        MastPulpits x = new MastPulpits();
        courseIs(x, 0, 63, 7, 3);
        courseIs(x, 63, 0, 7, 7);
        for (int cell : Deck.beside(0, 63)) {
            for (int what = -1; what <= 2; what++) {
                DUE.is("course(" + cell + ", 0, " + what + ")", x.course(cell, 0, what), -1);
                DUE.is("course(0, " + cell + ", " + what + ")", x.course(0, cell, what), -1);
                DUE.is("course(" + cell + ", " + cell + ", " + what + ")", x.course(cell, cell, what), -1);
            }
        }
    }

    private static void courseWhat() {
        DUE.sentence("COURSE: how many (what = 0), the WAY (1); NONE.");
        MastPulpits x = Deck.withLand(1);
        for (int what : Deck.beside(0, 1)) {
            DUE.is("course(0, 63, " + what + ")", x.course(0, 63, what), -2);
            DUE.is("course(0, 0, " + what + ")", x.course(0, 0, what), -2);
            DUE.is("course(0, 1, " + what + ") to land", x.course(0, 1, what), -2);
        }
    }

    private static void courseToItself() {
        DUE.sentence("the WAY of the first, the least by which they are as few (NONE: 0)");
        MastPulpits x = new MastPulpits();
        for (int cell = 0; cell < 64; cell++) {
            courseIs(x, cell, cell, 0, -6);
        }
    }

    private static void courseByLand() {
        DUE.sentence("by CELLS that are no LAND (both, too)");
        MastPulpits x = Deck.withLand(0, 63, 9);
        courseIs(x, 0, 1, -6, -6);
        courseIs(x, 1, 0, -6, -6);
        courseIs(x, 63, 62, -6, -6);
        courseIs(x, 62, 63, -6, -6);
        courseIs(x, 0, 63, -6, -6);
        courseIs(x, 0, 0, -6, -6);
        courseIs(x, 63, 63, -6, -6);
        courseIs(x, 1, 17, 2, 3);
        courseIs(x, 1, 62, 7, 3);
        MastPulpits between = Deck.withLand(1, 8);
        courseIs(between, 0, 9, 1, 3);
        courseIs(between, 9, 0, 1, 7);
    }

    private static void noCourse() {
        DUE.sentence("the fewest steps; .. NONE.");
        MastPulpits x = Deck.withLand(1, 8, 9);
        courseIs(x, 0, 2, -6, -6);
        courseIs(x, 2, 0, -6, -6);
        courseIs(x, 0, 63, -6, -6);
        courseIs(x, 0, 0, 0, -6);
        MastPulpits last = Deck.withLand(54, 55, 62);
        courseIs(last, 63, 0, -6, -6);
        courseIs(last, 0, 63, -6, -6);
        last.land(54, 0);
        courseIs(last, 63, 0, 7, 7);
        courseIs(last, 0, 63, 7, 3);
    }

    private static void noCourseAroundTheSea() {
        DUE.sentence("eight rows of eight; CELL 8 times the row and the column");
        MastPulpits columns = Deck.withLand(4, 12, 20, 28, 36, 44, 52, 60);
        courseIs(columns, 0, 7, -6, -6);
        courseIs(columns, 15, 8, -6, -6);
        courseIs(columns, 0, 63, -6, -6);
        courseIs(columns, 56, 7, -6, -6);
        MastPulpits rows = Deck.withLand(32, 33, 34, 35, 36, 37, 38, 39);
        courseIs(rows, 0, 56, -6, -6);
        courseIs(rows, 63, 7, -6, -6);
        courseIs(rows, 0, 63, -6, -6);
        courseIs(rows, 56, 7, -6, -6);
    }

    private static void courseAlongTheBorders() {
        DUE.sentence("by the eight WAYS: the fewest steps");
        MastPulpits x = new MastPulpits();
        for (int cell = 0; cell < 64; cell++) {
            int[] corners = {0, 7, 56, 63};
            for (int corner : corners) {
                DUE.is("course(" + cell + ", " + corner + ", 0)", x.course(cell, corner, 0), Deck.far(cell, corner));
            }
        }
        for (int row = 0; row < 7; row++) {
            int end = 8 * row + 7;
            DUE.is("course(" + end + ", " + (end + 1) + ", 0)", x.course(end, end + 1, 0), 7);
            DUE.is("course(" + (end + 1) + ", " + end + ", 0)", x.course(end + 1, end, 0), 7);
        }
    }

    private static void leastWay() {
        DUE.sentence("the WAY of the first, the least by which they are as few");
        MastPulpits x = new MastPulpits();
        for (int way = 0; way < 8; way++) {
            courseIs(x, 36, Deck.next(36, way), 1, way);
        }
        courseIs(x, 56, 63, 7, 1);
        courseIs(x, 0, 7, 7, 2);
        courseIs(x, 32, 18, 2, 1);
        courseIs(x, 0, 56, 7, 3);
        courseIs(x, 7, 63, 7, 4);
        courseIs(x, 3, 51, 6, 3);
        courseIs(x, 7, 0, 7, 5);
        courseIs(x, 63, 56, 7, 6);
        courseIs(x, 63, 7, 7, 0);
        courseIs(x, 56, 0, 7, 0);
        x.land(28, 1);
        courseIs(x, 27, 29, 2, 1);
        x.land(20, 1);
        courseIs(x, 27, 29, 2, 3);
    }

    /** A way that winds about walls, one cell broad: no course on this sea is longer by much. */
    private static void longestCourse() {
        DUE.sentence("from one CELL to another one by CELLS that are no LAND .. the fewest steps");
        MastPulpits x = new MastPulpits();
        x.ship(0, 3);
        for (int row = 1; row < 8; row += 2) {
            for (int step = 0; step < 7; step++) {
                x.land(8 * row + (row % 4 == 1 ? step : step + 1), 1);
            }
        }
        courseIs(x, 0, 56, 28, 2);
        courseIs(x, 56, 0, 28, 1);
        x.land(56, 1);
        courseIs(x, 0, 56, -6, -6);
        courseIs(x, 0, 48, 28, 2);
        courseIs(x, 0, 49, 27, 2);
    }

    private static void courseAsLandIsNow() {
        DUE.sentence("COURSE (as LAND is now)");
        MastPulpits x = Deck.with("A^w2");
        courseIs(x, 26, 28, 2, 1);
        x.land(28, 1);
        courseIs(x, 26, 28, -6, -6);
        x.land(28, 0);
        courseIs(x, 26, 28, 2, 1);
        x.ship(28, 0);
        courseIs(x, 26, 28, 2, 1);
        x.land(27, 1);
        x.image(0);
        x.land(19, 1);
        courseIs(x, 26, 28, 2, 3);
        x.restore(0);
        courseIs(x, 26, 28, 2, 1);
    }

    // ---- 15 cross

    private static void cross() {
        crossCells();
        crossOutside();
        notItself();
        neitherOfBoth();
        endsAtTheBorder();
        leastCrossing();
        crossOverLand();
    }

    private static void crossIs(MastPulpits x, int a, int d, int b, int e, int many, int least) {
        String call = "cross(" + a + ", " + d + ", " + b + ", " + e;
        DUE.is(call + ", 0)", x.cross(a, d, b, e, 0), many);
        DUE.is(call + ", 1)", x.cross(a, d, b, e, 1), least);
    }

    private static void crossCells() {
        DUE.sentence("UNKNOWN: both; OUTSIDE: both WAYS, what.");
        MastPulpits x = new MastPulpits();
        crossIs(x, 0, 3, 63, 7, 6, 9);
        crossIs(x, 63, 7, 0, 3, 6, 9);
        for (int cell : Deck.beside(0, 63)) {
            DUE.is("cross(" + cell + ", 0, 0, 0, 0)", x.cross(cell, 0, 0, 0, 0), -1);
            DUE.is("cross(0, 0, " + cell + ", 0, 0)", x.cross(0, 0, cell, 0, 0), -1);
            DUE.is("cross(" + cell + ", 8, 0, 0, 0)", x.cross(cell, 8, 0, 0, 0), -1);
            DUE.is("cross(0, 8, " + cell + ", 0, 0)", x.cross(0, 8, cell, 0, 0), -1);
            DUE.is("cross(0, 0, " + cell + ", 8, 2)", x.cross(0, 0, cell, 8, 2), -1);
        }
    }

    private static void crossOutside() {
        DUE.sentence("OUTSIDE: both WAYS, what.");
        MastPulpits x = new MastPulpits();
        for (int way : Deck.beside(0, 7)) {
            DUE.is("cross(27, " + way + ", 27, 0, 0)", x.cross(27, way, 27, 0, 0), -2);
            DUE.is("cross(27, 0, 27, " + way + ", 0)", x.cross(27, 0, 27, way, 0), -2);
        }
        for (int what : Deck.beside(0, 1)) {
            DUE.is("cross(27, 0, 27, 0, " + what + ")", x.cross(27, 0, 27, 0, what), -2);
        }
        crossIs(x, 27, 0, 27, 0, 3, 3);
        crossIs(x, 27, 7, 27, 7, 3, 0);
    }

    private static void notItself() {
        DUE.sentence("(on no CELL of both itself)");
        MastPulpits x = new MastPulpits();
        crossIs(x, 27, 2, 27, 2, 4, 28);
        crossIs(x, 27, 2, 27, 6, 0, -6);
        crossIs(x, 27, 2, 27, 3, 0, -6);
        crossIs(x, 27, 2, 29, 2, 2, 30);
        crossIs(x, 27, 2, 29, 0, 0, -6);
        crossIs(x, 29, 0, 27, 2, 0, -6);
    }

    private static void neitherOfBoth() {
        DUE.sentence("from CELL a something bears WAY d, from CELL b it bears WAY e");
        MastPulpits x = new MastPulpits();
        crossIs(x, 27, 2, 31, 6, 3, 28);
        crossIs(x, 27, 2, 28, 6, 0, -6);
        crossIs(x, 0, 4, 56, 0, 6, 8);
        crossIs(x, 7, 5, 56, 1, 6, 14);
        crossIs(x, 31, 6, 27, 6, 3, 24);
    }

    private static void endsAtTheBorder() {
        DUE.sentence("CELLS 0 to 63: eight rows of eight .. bears WAY d");
        for (int cell = 0; cell < 64; cell++) {
            MastPulpits x = new MastPulpits();
            for (int way = 0; way < 8; way++) {
                int many = 0;
                int least = -6;
                for (int on = Deck.next(cell, way); on >= 0; on = Deck.next(on, way)) {
                    many++;
                    least = least < 0 ? on : Math.min(least, on);
                }
                crossIs(x, cell, way, cell, way, many, least);
            }
        }
    }

    private static void leastCrossing() {
        DUE.sentence("how many CELLS it can be on; the least (NONE)");
        MastPulpits x = new MastPulpits();
        crossIs(x, 56, 0, 7, 6, 1, 0);
        crossIs(x, 56, 2, 7, 4, 1, 63);
        crossIs(x, 63, 0, 15, 0, 1, 7);
        crossIs(x, 63, 7, 62, 7, 0, -6);
        crossIs(x, 0, 0, 63, 4, 0, -6);
        crossIs(x, 0, 2, 56, 2, 0, -6);
        crossIs(x, 0, 3, 7, 5, 0, -6);
        crossIs(x, 63, 6, 62, 6, 6, 56);
    }

    private static void crossOverLand() {
        DUE.sentence("how many CELLS it can be on");
        MastPulpits x = Deck.withLand(28, 29, 30, 31);
        crossIs(x, 27, 2, 26, 2, 4, 28);
        crossIs(x, 26, 2, 25, 2, 5, 27);
        crossIs(x, 28, 2, 28, 2, 3, 29);
    }

    // ---- 16 ropes

    private static void ropes() {
        manyPieces();
        digitNought();
        otherThanNDigits();
        ropeLength();
        ropesWhat();
        asLongAsARope();
        fewestRopes();
        mostFromOne();
        oneCallAfterAnother();
    }

    private static void cut(MastPulpits x, int row, int n, int l, int fewest, int most) {
        DUE.is("ropes(" + row + ", " + n + ", " + l + ", 0)", x.ropes(row, n, l, 0), fewest);
        DUE.is("ropes(" + row + ", " + n + ", " + l + ", 1)", x.ropes(row, n, l, 1), most);
    }

    private static void manyPieces() {
        DUE.sentence("(n of them, 1 to 9; 1 to 9 each) .. OUTSIDE: n");
        MastPulpits x = new MastPulpits();
        int row = 0;
        for (int n = 1; n <= 9; n++) {
            row = 10 * row + 1;
            cut(x, row, n, 9, 1, n);
            cut(x, 9 * row, n, 9, n, 1);
        }
        for (int n : Deck.beside(1, 9)) {
            cut(x, 1, n, 9, -2, -2);
            cut(x, 0, n, 9, -2, -2);
            cut(x, 1111111111, n, 9, -2, -2);
        }
    }

    private static void digitNought() {
        DUE.sentence("a digit 0");
        MastPulpits x = new MastPulpits();
        cut(x, 0, 1, 9, -2, -2);
        cut(x, 10, 2, 9, -2, -2);
        cut(x, 101, 3, 9, -2, -2);
        cut(x, 110, 3, 9, -2, -2);
        cut(x, 111111110, 9, 9, -2, -2);
        cut(x, 101111111, 9, 9, -2, -2);
        cut(x, 100000000, 9, 9, -2, -2);
        cut(x, 1, 1, 9, 1, 1);
        cut(x, 9, 1, 9, 1, 1);
    }

    private static void otherThanNDigits() {
        DUE.sentence("other than n digits");
        MastPulpits x = new MastPulpits();
        cut(x, 11, 1, 9, -2, -2);
        cut(x, 1, 2, 9, -2, -2);
        cut(x, 11111111, 9, 9, -2, -2);
        cut(x, 111111111, 8, 9, -2, -2);
        cut(x, 1111111111, 9, 9, -2, -2);
        cut(x, 2111111111, 9, 9, -2, -2);
        cut(x, 0, 2, 9, -2, -2);
        cut(x, 0, 9, 9, -2, -2);
        int[] below = {-1, -9, -11, -111111111, -1111111111, Deck.MIN, Deck.MIN + 1, Deck.MAX};
        for (int row : below) {
            for (int n = 1; n <= 9; n++) {
                cut(x, row, n, 9, -2, -2);
            }
        }
    }

    private static void ropeLength() {
        DUE.sentence("are cut from ropes of l (9 to 30) .. OUTSIDE: .. l");
        MastPulpits x = new MastPulpits();
        cut(x, 9999, 4, 9, 4, 1);
        cut(x, 9999, 4, 30, 2, 3);
        cut(x, 789999, 6, 30, 2, 3);
        for (int l : Deck.beside(9, 30)) {
            cut(x, 1, 1, l, -2, -2);
        }
    }

    private static void ropesWhat() {
        DUE.sentence("ROPES: how many (what = 0), pieces (1). OUTSIDE: n, a digit 0, other than n digits, l, what.");
        MastPulpits x = new MastPulpits();
        for (int what : Deck.beside(0, 1)) {
            DUE.is("ropes(12, 2, 9, " + what + ")", x.ropes(12, 2, 9, what), -2);
        }
        cut(x, 12, 2, 9, 1, 2);
    }

    private static void asLongAsARope() {
        DUE.sentence("pieces as long as digits tell .. are cut from ropes of l");
        MastPulpits x = new MastPulpits();
        cut(x, 9, 1, 9, 1, 1);
        cut(x, 99, 2, 17, 2, 1);
        cut(x, 99, 2, 18, 1, 2);
        cut(x, 999, 3, 26, 2, 2);
        cut(x, 999, 3, 27, 1, 3);
        cut(x, 111111111, 9, 9, 1, 9);
        cut(x, 111111112, 9, 9, 2, 8);
        cut(x, 999999999, 9, 17, 9, 1);
        cut(x, 999999999, 9, 18, 5, 2);
        cut(x, 54321, 5, 15, 1, 5);
        cut(x, 54321, 5, 14, 2, 4);
    }

    private static void fewestRopes() {
        DUE.sentence("the fewest ropes");
        MastPulpits x = new MastPulpits();
        cut(x, 443322, 6, 9, 2, 3);
        cut(x, 664433222, 9, 10, 4, 4);
        cut(x, 553322, 6, 10, 2, 4);
        cut(x, 64334, 5, 10, 2, 3);
        cut(x, 43346, 5, 10, 2, 3);
        cut(x, 33446, 5, 10, 2, 3);
    }

    private static void mostFromOne() {
        DUE.sentence("how many pieces, at the most, can come from one rope (however all others are cut)");
        MastPulpits x = new MastPulpits();
        cut(x, 999999991, 9, 9, 9, 1);
        cut(x, 991111111, 9, 9, 3, 7);
        cut(x, 987654321, 9, 9, 5, 3);
        cut(x, 123456789, 9, 30, 2, 7);
        cut(x, 555, 3, 9, 3, 1);
        cut(x, 555, 3, 10, 2, 2);
        cut(x, 36, 2, 9, 1, 2);
        cut(x, 37, 2, 9, 2, 1);
    }

    private static void oneCallAfterAnother() {
        DUE.sentence("They change nothing");
        MastPulpits x = new MastPulpits();
        cut(x, 999999999, 9, 9, 9, 1);
        cut(x, 1, 1, 9, 1, 1);
        cut(x, 99, 3, 9, -2, -2);
        cut(x, 11, 2, 9, 1, 2);
        cut(x, 987654321, 9, 9, 5, 3);
    }
}
