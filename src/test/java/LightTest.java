/** Promises 17 to 25: the light, tacks, who sees it first, years, images. */
public final class LightTest {
    private static final Due DUE = new Due();

    public static void main(String[] args) {
        look();
        light();
        ask();
        tack();
        first();
        firstRefusals();
        year();
        yearRefusals();
        images();
        DUE.end();
    }

    private static void look() {
        MastPulpits x = new MastPulpits();
        DUE.is("look(64, 8, true)", x.look(64, 8, true), -1);
        DUE.is("look(-1, 0, true)", x.look(-1, 0, true), -1);
        DUE.is("look(0, 8, true)", x.look(0, 8, true), -2);
        DUE.is("look(0, -1, true)", x.look(0, -1, true), -2);
        for (int sight = 1; sight <= 8; sight++) {
            DUE.is("look", x.look(0, 7, true), sight);
        }
        DUE.is("look, full", x.look(0, 0, true), -4);
        DUE.is("look(0, 8, true), full", x.look(0, 8, true), -2);
        DUE.is("look(64, 0, true), full", x.look(64, 0, true), -1);
        DUE.is("nothing changed", x.light(-1), 64);
        DUE.is("told(8)", x.told(8), 8);
        DUE.is("forget()", x.forget(), 8);
        DUE.is("forget()", x.forget(), 0);
        DUE.is("look after it", x.look(0, 0, true), 1);
        DUE.is("light(-1)", x.light(-1), 1);
        DUE.is("forget()", x.forget(), 1);
        DUE.is("light(-1)", x.light(-1), 64);
    }

    private static void lit(MastPulpits x, int... cells) {
        DUE.is("light(-1)", x.light(-1), cells.length);
        for (int i = 0; i < cells.length; i++) {
            DUE.is("light(" + i + ")", x.light(i), cells[i]);
        }
        DUE.is("light behind the last", x.light(cells.length), -6);
        DUE.is("light(-2)", x.light(-2), -6);
        DUE.is("light(max)", x.light(Integer.MAX_VALUE), -6);
        DUE.is("light(min)", x.light(Integer.MIN_VALUE), -6);
    }

    private static void light() {
        MastPulpits x = new MastPulpits();
        x.land(0, 1);
        x.look(0, 1, true);
        lit(x, 0, 1, 8, 9);
        x.look(7, 6, true);
        lit(x, 1, 9);
        x.look(9, 0, false);
        lit(x, 1);
        x.look(1, 0, false);
        lit(x);
        x.forget();
        x.look(63, 1, true);
        lit(x, 54, 55, 62, 63);
        x.look(56, 6, true);
        lit(x, 54, 62);
        x.forget();
        x.look(28, 0, true);
        lit(x, 28);
        x.forget();
        x.look(0, 6, false);
        lit(x, 7, 15, 23, 31, 39, 47, 55, 56, 57, 58, 59, 60, 61, 62, 63);
    }

    private static void ask() {
        MastPulpits x = new MastPulpits();
        DUE.is("ask(0) of all", x.ask(0), 14);
        DUE.is("ask(1) of all", x.ask(1), 34);
        x.look(0, 0, true);
        DUE.is("ask(0) of one", x.ask(0), 0);
        DUE.is("ask(1) of one", x.ask(1), 1);
        x.forget();
        x.look(0, 1, true);
        DUE.is("ask(0) of four", x.ask(0), 21);
        DUE.is("ask(1) of four", x.ask(1), 2);
        x.forget();
        twoLeft(x);
        x.look(9, 0, true);
        DUE.is("ask(0) of none", x.ask(0), -6);
        DUE.is("ask(1) of none", x.ask(1), -6);
        DUE.is("ask(2) of none", x.ask(2), -2);
        DUE.is("ask(-1) of none", x.ask(-1), -2);
        x.forget();
        for (int sight = 0; sight < 8; sight++) {
            x.look(0, 0, true);
        }
        DUE.is("ask(0) of eight sights", x.ask(0), 0);
    }

    private static void twoLeft(MastPulpits x) {
        x.look(62, 1, true);
        x.look(61, 1, false);
        DUE.is("light(-1) of two", x.light(-1), 2);
        DUE.is("light(0) of two", x.light(0), 55);
        DUE.is("ask(0) of two", x.ask(0), 16);
        DUE.is("ask(1) of two", x.ask(1), 1);
    }

    private static void tack() {
        MastPulpits x = new MastPulpits();
        tacked(x, 0, -6);
        tacked(x, 1, -6);
        tacked(x, 8, -6);
        tacked(x, 9, -6);
        tacked(x, 2, 8);
        tacked(x, 16, 1);
        tacked(x, 17, 0);
        tacked(x, 10, 0);
        tacked(x, 18, 1);
        tacked(x, 63, -6);
        tacked(x, 7, 13);
        tacked(x, 56, 41);
        x.land(8, 1);
        tacked(x, 2, 8);
        DUE.is("tack(64, 2)", x.tack(64, 2), -1);
        DUE.is("tack(-1, 0)", x.tack(-1, 0), -1);
        DUE.is("tack(0, 2)", x.tack(0, 2), -2);
        DUE.is("tack(0, -1)", x.tack(0, -1), -2);
    }

    private static void tacked(MastPulpits x, int cell, int to) {
        DUE.is("tack(" + cell + ", 0)", x.tack(cell, 0), to == -6 ? 0 : 1);
        DUE.is("tack(" + cell + ", 1)", x.tack(cell, 1), to);
    }

    private static void chances(int a, int b, int n, long... parts) {
        MastPulpits x = new MastPulpits();
        for (int i = 0; i < 6; i++) {
            String call = "first(" + a + ", " + b + ", " + n + ", " + i / 2 + ", " + i % 2 + ")";
            DUE.is(call, x.first(a, b, n, i / 2, i % 2), parts[i]);
        }
    }

    private static void first() {
        chances(5, 5, 0, 0, 1, 0, 1, 1, 1);
        chances(0, 0, 16, 0, 1, 0, 1, 1, 1);
        chances(10, 10, 16, 1, 1, 0, 1, 0, 1);
        chances(0, 10, 16, 0, 1, 1, 1, 0, 1);
        chances(0, 10, 1, 0, 1, 0, 1, 1, 1);
        chances(5, 5, 1, 1, 2, 0, 1, 1, 2);
        chances(5, 5, 2, 1, 2, 1, 4, 1, 4);
        chances(5, 5, 3, 5, 8, 1, 4, 1, 8);
        chances(2, 5, 2, 1, 5, 2, 5, 2, 5);
        chances(3, 7, 1, 3, 10, 0, 1, 7, 10);
        chances(1, 9, 2, 1, 10, 81, 100, 9, 100);
        chances(5, 5, 16, 21845, 32768, 21845, 65536, 1, 65536);
        chances(9, 9, 16, 909090909090909L, 1000000000000000L, 909090909090909L, 10000000000000000L,
            1, 10000000000000000L);
    }

    private static void firstRefusals() {
        MastPulpits x = new MastPulpits();
        int[][] outside = {{11, 0, 0, 0, 0}, {-1, 0, 0, 0, 0}, {0, 11, 0, 0, 0}, {0, -1, 0, 0, 0}, {0, 0, 17, 0, 0},
            {0, 0, -1, 0, 0}, {0, 0, 0, 3, 0}, {0, 0, 0, -1, 0}, {0, 0, 0, 0, 2}, {0, 0, 0, 0, -1}};
        for (int[] o : outside) {
            DUE.is("first, outside", x.first(o[0], o[1], o[2], o[3], o[4]), -1000000000000000002L);
        }
    }

    /** A sea with land about, hours and fog, so that a year differs if it does not begin with all as it is. */
    private static MastPulpits seaOfLand() {
        MastPulpits x = new MastPulpits();
        int[] lands = {2, 12, 17, 30, 34, 37, 44, 50, 59};
        for (int cell : lands) {
            x.land(cell, 1);
        }
        x.ship(27, 9);
        x.watcher(0, 1);
        x.watcher(2, 2);
        x.watcher(3, 7);
        int[] acts = {'C', '^', 'f', '5', '.', '.', '.', '.'};
        for (int sign : acts) {
            x.say(sign);
        }
        x.done();
        return x;
    }

    /** The same acts said one by one, by who can tell whether each of them can be. */
    private static void year() {
        int[] seeds = {0, 1, 5, 77, 4321, 9998, 9999};
        for (int seed : seeds) {
            for (int m = 1; m <= 99; m += 7) {
                sailed(new MastPulpits(), new MastPulpits(), seed, m);
                sailed(seaOfLand(), seaOfLand(), seed, m);
            }
        }
    }

    private static void sailed(MastPulpits x, MastPulpits told, int seed, int m) {
        long drawn = seed;
        int silences = 0;
        for (int i = 0; i < m; i++) {
            drawn = (75 * drawn + 74) % 65537;
            String act = actOf(drawn % 8, drawn / 8);
            for (int sign = 0; sign < act.length(); sign++) {
                told.say(act.charAt(sign));
            }
            silences += told.silence(0) == 0 ? 1 : 0;
            if (told.done() < 0) {
                told.wipe();
            }
        }
        String call = "year(" + seed + ", " + m;
        DUE.is(call + ", 0)", x.year(seed, m, 0), told.told(2));
        DUE.is(call + ", 1)", x.year(seed, m, 1), told.told(3));
        DUE.is(call + ", 2)", x.year(seed, m, 2), silences);
        DUE.is("nothing is done in fact", x.told(2), 27);
    }

    private static String actOf(long lot, long y) {
        if (lot == 0) {
            return (char) ('A' + y % 6) + "^";
        }
        if (lot <= 4) {
            return "w" + y % 8;
        }
        if (lot == 5) {
            return "f" + y % 8;
        }
        return lot == 6 ? "c" : ".";
    }

    private static void yearRefusals() {
        MastPulpits x = new MastPulpits();
        DUE.is("year(-1, 1, 0)", x.year(-1, 1, 0), -2);
        DUE.is("year(10000, 1, 0)", x.year(10000, 1, 0), -2);
        DUE.is("year(0, 0, 0)", x.year(0, 0, 0), -2);
        DUE.is("year(0, 100, 0)", x.year(0, 100, 0), -2);
        DUE.is("year(0, 1, 3)", x.year(0, 1, 3), -2);
        DUE.is("year(0, 1, -1)", x.year(0, 1, -1), -2);
    }

    private static void images() {
        MastPulpits x = new MastPulpits();
        DUE.is("image(-1)", x.image(-1), -2);
        DUE.is("image(2)", x.image(2), -2);
        DUE.is("restore(-1)", x.restore(-1), -2);
        DUE.is("restore(2)", x.restore(2), -2);
        DUE.is("restore(0), not kept", x.restore(0), -3);
        DUE.is("image(1)", x.image(1), 1);
        DUE.is("restore(0), not kept", x.restore(0), -3);
        change(x);
        DUE.is("image(0)", x.image(0), 1);
        DUE.is("restore(1)", x.restore(1), 1);
        whole(x, new int[] {3, 0, 27, 3, -6, -6, 0, 0, 0}, 4, 64);
        DUE.is("restore(1) again", x.restore(1), 1);
        DUE.is("restore(0)", x.restore(0), 1);
        whole(x, new int[] {3, 1, 36, 3, 1, 1, 4, 1, 1}, 6, 1);
        DUE.is("land(9, 1)", x.land(9, 1), 2);
        DUE.is("watcher(5, 2)", x.watcher(5, 2), 6);
        DUE.is("an image stays as it was", x.restore(0), 1);
        whole(x, new int[] {3, 1, 36, 3, 1, 1, 4, 1, 1}, 6, 1);
        DUE.is("the pad is kept in none", x.judge(0), 0);
    }

    private static void change(MastPulpits x) {
        x.land(28, 1);
        x.watcher(5, 6);
        x.fog(5);
        x.look(1, 0, true);
        int[] acts = {'B', '^', '.', 'w', '3'};
        for (int sign : acts) {
            x.say(sign);
        }
        x.done();
        x.say('B');
        x.say('^');
        x.say('c');
    }

    private static void whole(MastPulpits x, int[] due, int eyes, int fitting) {
        for (int what = 0; what < due.length; what++) {
            DUE.is("told(" + what + ")", x.told(what), due[what]);
        }
        DUE.is("told(15)", x.told(15), eyes);
        DUE.is("told(128)", x.told(128), due[1]);
        DUE.is("light(-1)", x.light(-1), fitting);
    }
}
