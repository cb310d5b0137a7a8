/** Calls that nothing but their numbers decides, on the whole of their ranges, against the plain model. */
public final class WholeTest {
    private static final Due DUE = new Due();
    private static final Model MODEL = new Model();

    public static void main(String[] args) {
        tacks();
        chances();
        bearings();
        ropesOfThree();
        DUE.end();
    }

    private static void tacks() {
        MastPulpits x = new MastPulpits();
        for (int cell = -1; cell <= 64; cell++) {
            for (int what = -1; what <= 2; what++) {
                DUE.is("tack " + cell + " " + what, x.tack(cell, what), MODEL.tack(cell, what));
            }
        }
    }

    private static void chances() {
        for (int a = -1; a <= 11; a++) {
            for (int b = -1; b <= 11; b++) {
                MastPulpits x = new MastPulpits();
                for (int n = -1; n <= 17; n++) {
                    for (int i = 0; i < 6; i++) {
                        DUE.is("first " + a + " " + b + " " + n + " " + i / 2 + " " + i % 2,
                            x.first(a, b, n, i / 2, i % 2), MODEL.first(a, b, n, i / 2, i % 2));
                    }
                }
            }
        }
    }

    private static void bearings() {
        for (int a = 0; a < 64; a++) {
            for (int b = 0; b < 64; b++) {
                MastPulpits x = new MastPulpits();
                for (int ways = 0; ways < 64; ways++) {
                    for (int what = 0; what < 2; what++) {
                        DUE.is("cross " + a + " " + ways / 8 + " " + b + " " + ways % 8 + " " + what,
                            x.cross(a, ways / 8, b, ways % 8, what), MODEL.cross(a, ways / 8, b, ways % 8, what));
                    }
                }
            }
        }
    }

    private static void ropesOfThree() {
        for (int row = 100; row < 1000; row++) {
            MastPulpits x = new MastPulpits();
            for (int l = 8; l <= 31; l++) {
                for (int what = 0; what < 2; what++) {
                    DUE.is("ropes " + row + " 3 " + l + " " + what, x.ropes(row, 3, l, what),
                        MODEL.ropes(row, 3, l, what));
                }
            }
        }
    }
}
