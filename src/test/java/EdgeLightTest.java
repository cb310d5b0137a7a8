/** Promises 17 to 22, and what the terms tell of lights: each sentence that names an edge has a test of its own. */
public final class EdgeLightTest {
    private static final Due DUE = new Due();
    private static final int MAX = Deck.MAX, MIN = Deck.MIN;
    private static final long REFUSED = -1000000000000000002L;

    public static void main(String[] args) {
        look();
        forget();
        light();
        ask();
        tack();
        first();
        DUE.end();
    }

    private static void lit(String call, MastPulpits x, int... cells) {
        DUE.is(call + ": light(-1)", x.light(-1), cells.length);
        for (int i = 0; i < cells.length; i++) {
            DUE.is(call + ": light(" + i + ")", x.light(i), cells[i]);
        }
        DUE.is(call + ": light(" + cells.length + ")", x.light(cells.length), -6);
    }

    // ---- 17 look

    private static void look() {
        lookCells();
        lookGlass();
        eightSights();
        refusedWhenFull();
        leastGlass();
        mostGlass();
        noMoreFar();
    }

    private static void lookCells() {
        DUE.sentence("A SIGHT more: how many. UNKNOWN");
        MastPulpits x = new MastPulpits();
        DUE.is("look(0, 7, true)", x.look(0, 7, true), 1);
        DUE.is("look(63, 7, true)", x.look(63, 7, true), 2);
        for (int cell : Deck.beside(0, 63)) {
            DUE.is("look(" + cell + ", 0, true)", x.look(cell, 0, true), -1);
            DUE.is("look(" + cell + ", 0, false)", x.look(cell, 0, false), -1);
            DUE.is("look(" + cell + ", 8, true)", x.look(cell, 8, true), -1);
        }
        DUE.is("told(8)", x.told(8), 2);
        DUE.is("light(-1)", x.light(-1), 64);
    }

    private static void lookGlass() {
        DUE.sentence("UNKNOWN; OUTSIDE: e; FULL.");
        MastPulpits x = new MastPulpits();
        DUE.is("look(0, 0, false)", x.look(0, 0, false), 1);
        DUE.is("look(0, 7, true)", x.look(0, 7, true), 2);
        for (int e : Deck.beside(0, 7)) {
            DUE.is("look(0, " + e + ", true)", x.look(0, e, true), -2);
            DUE.is("look(0, " + e + ", false)", x.look(0, e, false), -2);
        }
        DUE.is("told(8)", x.told(8), 2);
        DUE.is("light(-1)", x.light(-1), 63);
    }

    private static void eightSights() {
        DUE.sentence("SIGHTS, 8 at most");
        MastPulpits x = new MastPulpits();
        for (int sight = 1; sight <= 8; sight++) {
            DUE.is("sight " + sight, x.look(sight, 0, false), sight);
        }
        DUE.is("the ninth", x.look(9, 0, false), -4);
        DUE.is("one that was told already", x.look(8, 0, false), -4);
        DUE.is("told(8)", x.told(8), 8);
        DUE.is("light(-1)", x.light(-1), 56);
        DUE.is("light(1)", x.light(1), 9);
        DUE.is("ask(1)", x.ask(1) >= 28 ? 1 : 0, 1);
        x.forget();
        DUE.is("room again", x.look(9, 0, false), 1);
    }

    private static void refusedWhenFull() {
        DUE.sentence("the first of these that fits");
        MastPulpits x = new MastPulpits();
        for (int sight = 1; sight <= 8; sight++) {
            x.look(0, 7, true);
        }
        DUE.is("look(64, 8, true)", x.look(64, 8, true), -1);
        DUE.is("look(64, 0, true)", x.look(64, 0, true), -1);
        DUE.is("look(0, 8, true)", x.look(0, 8, true), -2);
        DUE.is("look(0, -1, true)", x.look(0, -1, true), -2);
        DUE.is("look(0, 0, true)", x.look(0, 0, true), -4);
    }

    private static void leastGlass() {
        DUE.sentence("from a CELL a GLASS of e (0 to 7) SEES it .. or does not");
        for (int cell : new int[] {0, 7, 27, 56, 63}) {
            MastPulpits x = new MastPulpits();
            x.look(cell, 0, true);
            lit("seen from " + cell + " by 0", x, cell);
            x.look(cell, 0, false);
            lit("and not seen", x);
            x.forget();
            x.look(cell, 0, false);
            DUE.is("not seen from " + cell + " by 0: light(-1)", x.light(-1), 63);
            DUE.is("light(" + cell + ")", x.light(cell), cell == 63 ? -6 : cell + 1);
        }
    }

    private static void mostGlass() {
        DUE.sentence("a GLASS of e (0 to 7)");
        for (int cell : new int[] {0, 7, 27, 56, 63}) {
            MastPulpits x = new MastPulpits();
            x.look(cell, 7, true);
            DUE.is("seen from " + cell + " by 7: light(-1)", x.light(-1), 64);
            x.look(cell, 7, false);
            lit("not seen from " + cell + " by 7", x);
        }
    }

    private static void noMoreFar() {
        DUE.sentence("SEES it (it is no more FAR than that), or does not");
        for (int cell : new int[] {0, 7, 15, 27, 48, 56, 63}) {
            MastPulpits x = new MastPulpits();
            for (int e = 0; e <= 7; e++) {
                int many = 0;
                for (int other = 0; other < 64; other++) {
                    many += Deck.far(cell, other) <= e ? 1 : 0;
                }
                x.look(cell, e, true);
                DUE.is("seen from " + cell + " by " + e, x.light(-1), many);
                x.forget();
                x.look(cell, e, false);
                DUE.is("not seen from " + cell + " by " + e, x.light(-1), 64 - many);
                x.forget();
            }
        }
    }

    // ---- 18 forget

    private static void forget() {
        DUE.sentence("SIGHTS go: how many there were.");
        MastPulpits x = new MastPulpits();
        DUE.is("of none", x.forget(), 0);
        x.look(0, 0, true);
        DUE.is("of one", x.forget(), 1);
        DUE.is("a second time", x.forget(), 0);
        for (int sight = 1; sight <= 9; sight++) {
            x.look(sight, 0, true);
        }
        lit("none fits eight", x);
        DUE.is("of eight", x.forget(), 8);
        DUE.is("told(8)", x.told(8), 0);
        DUE.is("all fit none: light(-1)", x.light(-1), 64);
        DUE.is("look(5, 0, true)", x.look(5, 0, true), 1);
        lit("no old sight counts", x, 5);
    }

    // ---- 19 light

    private static void light() {
        allFit();
        noneFits();
        belowAndBehind();
        rising();
        whateverElseIs();
    }

    private static void allFit() {
        DUE.sentence("CELLS by which all SIGHTS are so: how many");
        MastPulpits x = new MastPulpits();
        DUE.is("light(-1) without sights", x.light(-1), 64);
        for (int i = 0; i < 64; i++) {
            DUE.is("light(" + i + ")", x.light(i), i);
        }
        DUE.is("light(64)", x.light(64), -6);
    }

    private static void noneFits() {
        DUE.sentence("LIGHT: how many (i = -1), the i-th; NONE");
        MastPulpits x = new MastPulpits();
        x.look(0, 0, true);
        x.look(63, 0, true);
        lit("on two cells", x);
        DUE.is("light(63)", x.light(63), -6);
        DUE.is("light(-2)", x.light(-2), -6);
    }

    private static void belowAndBehind() {
        DUE.sentence("NONE (i below -1, too).");
        MastPulpits x = new MastPulpits();
        for (int times = 0; times < 3; times++) {
            for (int i : new int[] {-2, -3, -6, -64, MIN, MIN + 1, 64, 65, MAX - 1, MAX}) {
                DUE.is("light(" + i + ")", x.light(i), -6);
            }
            x.look(0, 1, times == 0);
        }
    }

    private static void rising() {
        DUE.sentence("the i-th (rising)");
        MastPulpits x = new MastPulpits();
        x.look(63, 1, true);
        lit("last corner", x, 54, 55, 62, 63);
        x.look(55, 0, false);
        lit("but 55", x, 54, 62, 63);
        x.forget();
        x.look(0, 6, false);
        lit("far from 0", x, 7, 15, 23, 31, 39, 47, 55, 56, 57, 58, 59, 60, 61, 62, 63);
        x.forget();
        x.look(7, 1, true);
        lit("the end of a row", x, 6, 7, 14, 15);
        x.forget();
        x.look(8, 1, true);
        lit("the beginning of a row", x, 0, 1, 8, 9, 16, 17);
    }

    private static void whateverElseIs() {
        DUE.sentence("A light is on a CELL that is not known.");
        MastPulpits x = Deck.withLand(0, 1);
        x.ship(8, 3);
        x.fog(7);
        x.look(0, 1, true);
        lit("land, the ship and fog do not matter", x, 0, 1, 8, 9);
    }

    // ---- 20 ask

    private static void ask() {
        askWhat();
        askOfNone();
        askOfOne();
        askOfAll();
        fewestAtTheMost();
        askWhenFull();
    }

    private static void asked(String call, MastPulpits x, int from, int many) {
        DUE.is(call + ": ask(0)", x.ask(0), from);
        DUE.is(call + ": ask(1)", x.ask(1), many);
    }

    private static void askWhat() {
        DUE.sentence("NONE: nothing fits. OUTSIDE.");
        MastPulpits x = new MastPulpits();
        for (int times = 0; times < 2; times++) {
            for (int what : Deck.beside(0, 1)) {
                DUE.is("ask(" + what + ")", x.ask(what), -2);
            }
            x.look(0, 7, false);
        }
    }

    private static void askOfNone() {
        DUE.sentence("NONE: nothing fits.");
        MastPulpits x = new MastPulpits();
        x.look(5, 7, false);
        asked("nothing fits", x, -6, -6);
        x.forget();
        asked("all fit again", x, 14, 34);
    }

    private static void askOfOne() {
        DUE.sentence("fewest of these are left at the most: the least; how many");
        for (int cell : new int[] {0, 1, 27, 63}) {
            MastPulpits x = new MastPulpits();
            x.look(cell, 0, true);
            asked("one is left, " + cell, x, 0, 1);
        }
    }

    private static void askOfAll() {
        DUE.sentence("ASK: 10 times the CELL, and e, to look from and by next");
        MastPulpits x = new MastPulpits();
        asked("no sights", x, 14, 34);
        x.look(27, 7, true);
        asked("a sight that tells nothing", x, 14, 34);
        x.forget();
        x.look(62, 1, true);
        x.look(61, 1, false);
        lit("two in the last column", x, 55, 63);
        asked("two in the last column", x, 16, 1);
    }

    /** From 0 by 6 the one is seen and the other is not: the least of all that part them. */
    private static void fewestAtTheMost() {
        DUE.sentence("so that, seen or not, fewest of these are left at the most: the least");
        MastPulpits x = new MastPulpits();
        x.look(7, 1, true);
        x.look(22, 1, false);
        lit("two in the first row", x, 6, 7);
        asked("two in the first row", x, 6, 1);
        x.forget();
        x.look(0, 1, true);
        x.look(17, 1, false);
        lit("the first two", x, 0, 1);
        asked("the first two", x, 0, 1);
        x.forget();
        x.look(0, 1, true);
        asked("four in the corner", x, 21, 2);
        x.forget();
        x.look(0, 1, true);
        x.look(0, 0, false);
        asked("three in the corner", x, 10, 2);
        x.forget();
        x.look(0, 0, false);
        asked("all but one", x, 64, 33);
    }

    private static void askWhenFull() {
        DUE.sentence("SIGHTS, 8 at most .. ASK");
        MastPulpits x = new MastPulpits();
        for (int sight = 1; sight <= 8; sight++) {
            x.look(0, 1, true);
        }
        asked("eight sights", x, 21, 2);
        DUE.is("told(8)", x.told(8), 8);
    }

    // ---- 21 tack

    private static void tack() {
        tackCells();
        tackWhat();
        whoCanNotHasLost();
        withinTheSea();
        leastTack();
        landDoesNotMatter();
    }

    private static void tackIs(MastPulpits x, int cell, int to) {
        DUE.is("tack(" + cell + ", 0)", x.tack(cell, 0), to == -6 ? 0 : 1);
        DUE.is("tack(" + cell + ", 1)", x.tack(cell, 1), to);
    }

    private static void tackCells() {
        DUE.sentence("TACK: whether (what = 0), the CELL (1; NONE). UNKNOWN");
        MastPulpits x = new MastPulpits();
        tackIs(x, 0, -6);
        tackIs(x, 63, -6);
        for (int cell : Deck.beside(0, 63)) {
            for (int what = -1; what <= 2; what++) {
                DUE.is("tack(" + cell + ", " + what + ")", x.tack(cell, what), -1);
            }
        }
    }

    private static void tackWhat() {
        DUE.sentence("UNKNOWN; OUTSIDE.");
        MastPulpits x = new MastPulpits();
        for (int what : Deck.beside(0, 1)) {
            DUE.is("tack(0, " + what + ")", x.tack(0, what), -2);
            DUE.is("tack(63, " + what + ")", x.tack(63, what), -2);
        }
    }

    private static void whoCanNotHasLost() {
        DUE.sentence("who can not has lost: whether who begins can win (1, 0)");
        MastPulpits x = new MastPulpits();
        tackIs(x, 0, -6);
        tackIs(x, 1, -6);
        tackIs(x, 8, -6);
        tackIs(x, 9, -6);
        tackIs(x, 16, 1);
        tackIs(x, 2, 8);
    }

    /** Told by what a tack is, over again: no row ends in the next one. */
    private static int winningTack(int row, int column) {
        int[] rows = {-2, -2, -1, 1};
        int[] columns = {-1, 1, -2, -2};
        int least = -6;
        for (int i = 0; i < 4; i++) {
            int to = Deck.cellAt(row + rows[i], column + columns[i]);
            boolean wins = to >= 0 && winningTack(row + rows[i], column + columns[i]) == -6;
            if (wins && (least == -6 || to < least)) {
                least = to;
            }
        }
        return least;
    }

    private static void withinTheSea() {
        DUE.sentence("from a CELL two by turns go 2 rows less and 1 column more, or less, or 2 columns less and "
            + "1 row more, or less (within the SEA");
        MastPulpits x = new MastPulpits();
        for (int cell = 0; cell < 64; cell++) {
            tackIs(x, cell, winningTack(Deck.row(cell), Deck.column(cell)));
        }
    }

    private static void leastTack() {
        DUE.sentence("the CELL to which he goes first for it, the least (NONE)");
        MastPulpits x = new MastPulpits();
        tackIs(x, 17, 0);
        tackIs(x, 10, 0);
        tackIs(x, 18, 1);
        tackIs(x, 36, -6);
        tackIs(x, 7, 13);
        tackIs(x, 56, 41);
    }

    private static void landDoesNotMatter() {
        DUE.sentence("LAND does not matter");
        MastPulpits x = new MastPulpits();
        for (int cell = 0; cell < 64; cell++) {
            x.land(cell, 1);
        }
        tackIs(x, 2, 8);
        tackIs(x, 17, 0);
        tackIs(x, 18, 1);
        tackIs(x, 27, 12);
        tackIs(x, 63, -6);
        MastPulpits y = new MastPulpits();
        y.ship(8, 0);
        tackIs(y, 2, 8);
    }

    // ---- 22 first

    private static void first() {
        tenths();
        looks();
        whatAndPart();
        lowestTerms();
        noLooks();
        oneLook();
        neverAndSurely();
        mostLooks();
    }

    private static void chances(int a, int b, int n, long... parts) {
        MastPulpits x = new MastPulpits();
        for (int i = 0; i < 6; i++) {
            String call = "first(" + a + ", " + b + ", " + n + ", " + i / 2 + ", " + i % 2 + ")";
            DUE.is(call, x.first(a, b, n, i / 2, i % 2), parts[i]);
        }
    }

    private static void tenths() {
        DUE.sentence("with a tenths, another one with b tenths (0 to 10 both)");
        MastPulpits x = new MastPulpits();
        chances(0, 0, 2, 0, 1, 0, 1, 1, 1);
        chances(10, 10, 2, 1, 1, 0, 1, 0, 1);
        for (int tenths : Deck.beside(0, 10)) {
            DUE.is("first(" + tenths + ", 0, 1, 0, 0)", x.first(tenths, 0, 1, 0, 0), REFUSED);
            DUE.is("first(0, " + tenths + ", 1, 0, 0)", x.first(0, tenths, 1, 0, 0), REFUSED);
            DUE.is("first(0, " + tenths + ", 0, 0, 0)", x.first(0, tenths, 0, 0, 0), REFUSED);
        }
    }

    private static void looks() {
        DUE.sentence("they look by turns, n times (0 to 16) in all");
        MastPulpits x = new MastPulpits();
        DUE.is("first(0, 0, 0, 2, 0)", x.first(0, 0, 0, 2, 0), 1);
        DUE.is("first(0, 0, 16, 2, 0)", x.first(0, 0, 16, 2, 0), 1);
        for (int n : Deck.beside(0, 16)) {
            DUE.is("first(5, 5, " + n + ", 0, 0)", x.first(5, 5, n, 0, 0), REFUSED);
            DUE.is("first(5, 5, " + n + ", 2, 1)", x.first(5, 5, n, 2, 1), REFUSED);
        }
    }

    private static void whatAndPart() {
        DUE.sentence("Fractions are told in lowest terms by part: 0 the upper, 1 the lower number; refused with "
            + "GONE and the refusal.");
        MastPulpits x = new MastPulpits();
        for (int what : Deck.beside(0, 2)) {
            DUE.is("first(5, 5, 3, " + what + ", 0)", x.first(5, 5, 3, what, 0), REFUSED);
        }
        for (int part : Deck.beside(0, 1)) {
            DUE.is("first(5, 5, 3, 0, " + part + ")", x.first(5, 5, 3, 0, part), REFUSED);
        }
        DUE.is("GONE and the refusal", x.first(11, 11, 17, 3, 2), MastPulpits.GONE + MastPulpits.OUTSIDE);
        chances(5, 5, 3, 5, 8, 1, 4, 1, 8);
    }

    private static void lowestTerms() {
        DUE.sentence("Fractions are told in lowest terms");
        chances(2, 5, 1, 1, 5, 0, 1, 4, 5);
        chances(5, 2, 1, 1, 2, 0, 1, 1, 2);
        chances(4, 5, 2, 2, 5, 3, 10, 3, 10);
        chances(5, 10, 2, 1, 2, 1, 2, 0, 1);
        chances(6, 5, 2, 3, 5, 1, 5, 1, 5);
        chances(3, 7, 2, 3, 10, 49, 100, 21, 100);
        chances(5, 5, 16, 21845, 32768, 21845, 65536, 1, 65536);
        chances(8, 8, 3, 104, 125, 4, 25, 1, 125);
    }

    private static void noLooks() {
        DUE.sentence("n times (0 to 16) in all: .. that nobody sees it");
        chances(0, 0, 0, 0, 1, 0, 1, 1, 1);
        chances(10, 10, 0, 0, 1, 0, 1, 1, 1);
        chances(5, 5, 0, 0, 1, 0, 1, 1, 1);
    }

    private static void oneLook() {
        DUE.sentence("they look by turns");
        chances(3, 10, 1, 3, 10, 0, 1, 7, 10);
        chances(0, 10, 1, 0, 1, 0, 1, 1, 1);
        chances(0, 10, 2, 0, 1, 1, 1, 0, 1);
        chances(0, 3, 2, 0, 1, 3, 10, 7, 10);
        chances(3, 0, 3, 51, 100, 0, 1, 49, 100);
    }

    private static void neverAndSurely() {
        DUE.sentence("(0 to 10 both) each time he looks");
        chances(0, 0, 16, 0, 1, 0, 1, 1, 1);
        chances(10, 0, 16, 1, 1, 0, 1, 0, 1);
        chances(0, 10, 16, 0, 1, 1, 1, 0, 1);
        chances(10, 10, 16, 1, 1, 0, 1, 0, 1);
        chances(9, 10, 16, 9, 10, 1, 10, 0, 1);
    }

    private static void mostLooks() {
        DUE.sentence("n times (0 to 16) in all");
        chances(9, 9, 16, 909090909090909L, 1000000000000000L, 909090909090909L, 10000000000000000L,
            1, 10000000000000000L);
        chances(1, 0, 16, 56953279, 100000000, 0, 1, 43046721, 100000000);
        chances(0, 1, 16, 0, 1, 56953279, 100000000, 43046721, 100000000);
        chances(3, 7, 16, 379745399131923L, 1000000000000000L, 6202508185821409L, 10000000000000000L,
            37822859361L, 10000000000000000L);
        chances(0, 1, 15, 0, 1, 5217031, 10000000, 4782969, 10000000);
    }
}
