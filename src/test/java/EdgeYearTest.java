/** Promises 23 to 25, years and images: each sentence that names an edge has a test of its own. */
public final class EdgeYearTest {
    private static final Due DUE = new Due();
    private static final int UP = 0, SAIL = 1, FOG = 5, CALL = 6, HOUR = 7, ANY = -1;

    public static void main(String[] args) {
        year();
        image();
        restore();
        DUE.end();
    }

    // ---- 23 year

    private static void year() {
        seeds();
        manyActs();
        yearWhat();
        oneWay();
        wrapsBy65537();
        watchersBySix();
        upAlready();
        nobodyUp();
        hullNought();
        noCell();
        strikes();
        fogOfAYear();
        hours();
        lastHour();
        silencesAlone();
        fromAllAsItIs();
        nothingIsDone();
        padDoesNotMatter();
    }

    /** The draws of a seed, as the document tells them. */
    private static long[] draws(int seed, int many) {
        long[] all = new long[many];
        long x = seed;
        for (int i = 0; i < many; i++) {
            x = (75 * x + 74) % 65537;
            all[i] = x;
        }
        return all;
    }

    private static boolean drawsAct(long drawn, int kind, int with) {
        long lot = drawn % 8;
        boolean isKind = kind == SAIL ? lot >= 1 && lot <= 4 : lot == kind;
        return isKind && (with == ANY || drawn / 8 % (kind == UP ? 6 : 8) == with);
    }

    /** The least seed by which this act is drawn first. */
    private static int seed(int kind, int with) {
        return seed(kind, with, ANY, ANY);
    }

    /** The least seed by which these two acts are drawn first. */
    private static int seed(int kind, int with, int then, int withThen) {
        for (int seed = 0; seed <= 9999; seed++) {
            long[] two = draws(seed, 2);
            if (drawsAct(two[0], kind, with) && (then == ANY || drawsAct(two[1], then, withThen))) {
                return seed;
            }
        }
        throw new IllegalStateException("no seed draws what the test needs");
    }

    private static void yearIs(String call, MastPulpits x, int seed, int m, int ship, int hull, int silences) {
        String whole = call + ": year(" + seed + ", " + m;
        DUE.is(whole + ", 0)", x.year(seed, m, 0), ship);
        DUE.is(whole + ", 1)", x.year(seed, m, 1), hull);
        DUE.is(whole + ", 2)", x.year(seed, m, 2), silences);
    }

    private static void seeds() {
        DUE.sentence("A YEAR by a seed (0 to 9999)");
        MastPulpits x = new MastPulpits();
        for (int seed : Deck.beside(0, 9999)) {
            yearIs("outside", x, seed, 1, -2, -2, -2);
        }
        Deck.sails(x, "A^");
        yearIs("the least: draws 74, way 1", x, 0, 1, 20, 3, 0);
        yearIs("the most: draws 29092, way 4", x, 9999, 1, 35, 3, 0);
    }

    private static void manyActs() {
        DUE.sentence("of m ACTS (1 to 99)");
        MastPulpits x = Deck.sails(new MastPulpits(), "A^");
        for (int m : Deck.beside(1, 99)) {
            yearIs("outside", x, 0, m, -2, -2, -2);
        }
        int seed = seed(SAIL, 2, SAIL, 2);
        yearIs("one act", x, seed, 1, 28, 3, 0);
        yearIs("two acts", x, seed, 2, 29, 3, 0);
        int call = seed(CALL, ANY, CALL, ANY);
        yearIs("one call", x, call, 1, 27, 3, 1);
        yearIs("two calls", x, call, 2, 27, 3, 2);
        mostActs(x);
    }

    /** Where somebody is up and no land is, each call is a silence: the 99th act too. */
    private static void mostActs(MastPulpits x) {
        int seed = 0;
        while (draws(seed, 99)[98] % 8 != CALL) {
            seed++;
        }
        int calls = 0;
        for (long drawn : draws(seed, 99)) {
            calls += drawn % 8 == CALL ? 1 : 0;
        }
        DUE.is("99 acts: year(" + seed + ", 99, 2)", x.year(seed, 99, 2), calls);
        DUE.is("98 acts: year(" + seed + ", 98, 2)", x.year(seed, 98, 2), calls - 1);
    }

    private static void yearWhat() {
        DUE.sentence("A YEAR: the SHIP (what = 0), HULL (1), SILENCES (2). OUTSIDE.");
        MastPulpits x = new MastPulpits();
        for (int what : Deck.beside(0, 2)) {
            DUE.is("year(0, 1, " + what + ")", x.year(0, 1, what), -2);
        }
        yearIs("a whole year", x, 5, 90, 31, 3, 10);
    }

    private static void oneWay() {
        DUE.sentence("1 to 4 the SHIP goes WAY y left over by 8");
        MastPulpits x = Deck.sails(new MastPulpits(), "A^");
        for (int way = 0; way < 8; way++) {
            boolean[] met = new boolean[5];
            for (int seed = 0; seed <= 9999; seed++) {
                long drawn = draws(seed, 1)[0];
                int lot = (int) (drawn % 8);
                if (drawsAct(drawn, SAIL, way) && !met[lot]) {
                    met[lot] = true;
                    yearIs("way " + way + " by lot " + lot, x, seed, 1, Deck.next(27, way), 3, 0);
                }
            }
        }
    }

    private static void wrapsBy65537() {
        DUE.sentence("x, the seed at first, becomes (75 x and 74) left over by 65537");
        MastPulpits x = Deck.sails(new MastPulpits(), "A^");
        for (int seed = 860; seed <= 890; seed++) {
            long drawn = draws(seed, 1)[0];
            if (drawsAct(drawn, SAIL, ANY)) {
                yearIs("about 65537", x, seed, 1, Deck.next(27, (int) (drawn / 8 % 8)), 3, 0);
            }
        }
    }

    private static void watchersBySix() {
        DUE.sentence("0 WATCHER y left over by 6 goes UP");
        for (int watcher = 0; watcher <= 5; watcher++) {
            int seed = seed(UP, watcher, CALL, ANY);
            MastPulpits x = Deck.withLand(28);
            yearIs("all see", x, seed, 2, 27, 3, 0);
            x.land(28, 0);
            x.land(0, 1);
            for (int other = 0; other <= 5; other++) {
                x.watcher(other, other == watcher ? 7 : 2);
            }
            yearIs("but " + watcher + " none sees", x, seed, 2, 27, 3, 0);
            x.watcher(watcher, 2);
            yearIs("none sees", x, seed, 2, 27, 3, 1);
        }
    }

    private static void upAlready() {
        DUE.sentence("0 WATCHER y left over by 6 goes UP .. each if that can be");
        MastPulpits x = Deck.sails(Deck.withLand(31), "A^...");
        yearIs("he is up for three hours yet", x, seed(UP, 0, CALL, ANY), 2, 27, 3, 1);
        yearIs("another one is up for none", x, seed(UP, 1, CALL, ANY), 2, 27, 3, 0);
    }

    private static void nobodyUp() {
        DUE.sentence("each if that can be: .. 1 to 4 the SHIP goes");
        MastPulpits x = new MastPulpits();
        yearIs("nobody is up to sail", x, seed(SAIL, 2), 1, 27, 3, 0);
        yearIs("nobody is up to call", x, seed(CALL, ANY), 1, 27, 3, 0);
        yearIs("who goes up can sail", x, seed(UP, ANY, SAIL, 2), 2, 28, 3, 0);
        yearIs("who goes up can call", x, seed(UP, ANY, CALL, ANY), 2, 27, 3, 1);
        yearIs("an act that can not be is one of m", x, seed(SAIL, 2, UP, ANY), 2, 27, 3, 0);
    }

    private static void hullNought() {
        DUE.sentence("each if that can be: where the SHIP is; its HULL");
        MastPulpits x = Deck.withLand(28);
        x.ship(27, 0);
        Deck.sails(x, "A^");
        yearIs("no hull to sail", x, seed(SAIL, 3), 1, 27, 0, 0);
        yearIs("no hull to strike", x, seed(SAIL, 2), 1, 27, 0, 0);
        x.ship(27, 1);
        yearIs("strikes once alone", x, seed(SAIL, 2, SAIL, 2), 2, 27, 0, 0);
        yearIs("strikes, and sails no more", x, seed(SAIL, 2, SAIL, 4), 2, 27, 0, 0);
    }

    private static void noCell() {
        DUE.sentence("the SHIP goes WAY y left over by 8 .. each if that can be");
        MastPulpits x = Deck.sails(new MastPulpits(), "A^");
        for (int cell : new int[] {0, 7, 31, 32, 56, 63}) {
            x.ship(cell, 3);
            for (int way = 0; way < 8; way++) {
                int ahead = Deck.next(cell, way);
                yearIs("by " + way, x, seed(SAIL, way), 1, ahead < 0 ? cell : ahead, 3, 0);
            }
        }
    }

    private static void strikes() {
        DUE.sentence("its HULL; calls that were SILENCE");
        MastPulpits x = Deck.withLand(28);
        x.ship(27, 9);
        Deck.sails(x, "A^");
        yearIs("strikes", x, seed(SAIL, 2), 1, 27, 8, 0);
        yearIs("strikes twice", x, seed(SAIL, 2, SAIL, 2), 2, 27, 7, 0);
        yearIs("does not", x, seed(SAIL, 1), 1, 20, 9, 0);
    }

    private static void fogOfAYear() {
        DUE.sentence("5 FOG is y left over by 8");
        MastPulpits x = Deck.sails(Deck.withLand(31), "A^");
        for (int v = 0; v <= 7; v++) {
            yearIs("fog " + v, x, seed(FOG, v, CALL, ANY), 2, 27, 3, v == 0 ? 0 : 1);
        }
        x.watcher(0, 7);
        for (int v = 0; v <= 7; v++) {
            yearIs("fog " + v + ", eyes 7", x, seed(FOG, v, CALL, ANY), 2, 27, 3, v <= 3 ? 0 : 1);
        }
    }

    private static void hours() {
        DUE.sentence("7 an hour");
        MastPulpits x = Deck.sails(Deck.withLand(31), "A^.");
        yearIs("two hours up", x, seed(HOUR, ANY, CALL, ANY), 2, 27, 3, 0);
        Deck.sails(x, ".");
        yearIs("three hours up", x, seed(HOUR, ANY, CALL, ANY), 2, 27, 3, 1);
        MastPulpits fog = Deck.sails(Deck.withLand(31), "A^");
        fog.fog(1);
        yearIs("fog is less by an hour", fog, seed(HOUR, ANY, CALL, ANY), 2, 27, 3, 0);
        fog.fog(2);
        yearIs("by one", fog, seed(HOUR, ANY, CALL, ANY), 2, 27, 3, 1);
        fog.fog(0);
        yearIs("0 at least", fog, seed(HOUR, ANY, CALL, ANY), 2, 27, 3, 0);
    }

    private static void lastHour() {
        DUE.sentence("7 an hour; each if that can be");
        int seed = seed(HOUR, ANY, CALL, ANY);
        MastPulpits x = Deck.sails(Deck.waits(Deck.withLand(31), 96), "A^..");
        DUE.is("told(7)", x.told(7), 98);
        yearIs("hour 98: a third hour up", x, seed, 2, 27, 3, 1);
        MastPulpits last = Deck.sails(Deck.waits(Deck.withLand(31), 97), "A^..");
        DUE.is("told(7)", last.told(7), 99);
        yearIs("hour 99: no third hour up", last, seed, 2, 27, 3, 0);
        last.fog(1);
        yearIs("hour 99: fog is not less", last, seed, 2, 27, 3, 1);
    }

    private static void silencesAlone() {
        DUE.sentence("calls that were SILENCE");
        MastPulpits x = Deck.sails(Deck.withLand(31), "A^");
        yearIs("land that is 4 far", x, seed(CALL, ANY), 1, 27, 3, 0);
        yearIs("land, and none", x, seed(CALL, ANY, CALL, ANY), 2, 27, 3, 0);
        x.ship(26, 3);
        yearIs("land that is 5 far", x, seed(CALL, ANY), 1, 26, 3, 1);
        yearIs("twice", x, seed(CALL, ANY, CALL, ANY), 2, 26, 3, 2);
        yearIs("who sails nearer", x, seed(SAIL, 2, CALL, ANY), 2, 27, 3, 0);
    }

    private static void fromAllAsItIs() {
        DUE.sentence("from all as it is");
        MastPulpits x = Deck.withLand(36);
        x.ship(35, 7);
        yearIs("nobody is up", x, seed(SAIL, 2), 1, 35, 7, 0);
        Deck.sails(x, "F^");
        yearIs("one is", x, seed(SAIL, 2), 1, 35, 6, 0);
        x.fog(4);
        yearIs("fog", x, seed(CALL, ANY), 1, 35, 7, 1);
        x.watcher(5, 5);
        yearIs("eyes", x, seed(CALL, ANY), 1, 35, 7, 0);
        x.land(36, 0);
        yearIs("no land", x, seed(SAIL, 2), 1, 36, 7, 0);
    }

    private static void nothingIsDone() {
        DUE.sentence("Nothing is DONE in fact.");
        MastPulpits x = Deck.sails(Deck.withLand(28, 31), "A^f3.");
        x.look(0, 1, true);
        Deck.says(x, "w2c");
        long[] before = Deck.all(x);
        for (int seed = 0; seed <= 60; seed++) {
            x.year(seed * 166, 99, seed % 3);
        }
        DUE.same("all", Deck.all(x), before);
        DUE.is("one year as the year before", x.year(5, 90, 0), x.year(5, 90, 0));
    }

    private static void padDoesNotMatter() {
        DUE.sentence("from all as it is: .. Nothing is DONE");
        for (String text : new String[] {"", "A^", "!", "c", ".".repeat(60)}) {
            MastPulpits x = Deck.with(text);
            yearIs("pad " + text, x, 5, 90, 31, 3, 10);
            DUE.is("the pad stays", x.told(0), text.length());
        }
    }

    // ---- 24 image

    private static void image() {
        imageNumbers();
        imageOverAnother();
        imageStays();
    }

    private static void imageNumbers() {
        DUE.sentence("IMAGE (0, 1): 1. OUTSIDE.");
        MastPulpits x = new MastPulpits();
        for (int k : Deck.beside(0, 1)) {
            DUE.is("image(" + k + ")", x.image(k), -2);
        }
        DUE.is("none is kept: restore(0)", x.restore(0), -3);
        DUE.is("none is kept: restore(1)", x.restore(1), -3);
        DUE.is("image(0)", x.image(0), 1);
        DUE.is("restore(0)", x.restore(0), 1);
        DUE.is("the other one is not kept: restore(1)", x.restore(1), -3);
        DUE.is("image(1)", x.image(1), 1);
        DUE.is("restore(1)", x.restore(1), 1);
    }

    private static void imageOverAnother() {
        DUE.sentence("All but the PAD is kept in an IMAGE (0, 1)");
        MastPulpits x = new MastPulpits();
        x.ship(1, 1);
        x.image(0);
        x.ship(2, 2);
        x.image(1);
        x.ship(3, 3);
        DUE.is("image(0) again", x.image(0), 1);
        x.ship(4, 4);
        x.restore(1);
        DUE.is("told(2)", x.told(2), 2);
        x.restore(0);
        DUE.is("told(2)", x.told(2), 3);
    }

    private static void imageStays() {
        DUE.sentence("It is as it was when it was kept");
        MastPulpits x = Deck.withLand(1);
        x.image(1);
        long[] kept = Deck.all(x);
        for (int times = 0; times < 2; times++) {
            change(x);
            DUE.is("restore(1)", x.restore(1), 1);
            x.wipe();
            DUE.same("all", Deck.all(x), kept);
        }
    }

    /** All that can change does. */
    private static void change(MastPulpits x) {
        x.land(0, 1);
        x.land(1, 0);
        x.land(63, 1);
        x.ship(9, 8);
        for (int watcher = 0; watcher <= 5; watcher++) {
            x.watcher(watcher, watcher + 2);
        }
        Deck.sails(x, "F^.");
        x.fog(6);
        x.look(63, 1, true);
        x.look(62, 0, false);
    }

    // ---- 25 restore

    private static void restore() {
        restoreNumbers();
        allButThePad();
        eachPartIsRestored();
        upAndHours();
        otherImageStays();
    }

    private static void restoreNumbers() {
        DUE.sentence("OUTSIDE; STATE: it was not.");
        MastPulpits x = new MastPulpits();
        for (int times = 0; times < 2; times++) {
            for (int k : Deck.beside(0, 1)) {
                DUE.is("restore(" + k + ")", x.restore(k), -2);
            }
            x.image(times);
        }
        MastPulpits y = new MastPulpits();
        change(y);
        long[] before = Deck.all(y);
        DUE.is("restore(0)", y.restore(0), -3);
        DUE.is("restore(1)", y.restore(1), -3);
        DUE.same("nothing changes", Deck.all(y), before);
    }

    private static void allButThePad() {
        DUE.sentence("All but the PAD is kept");
        MastPulpits x = Deck.with("A^");
        x.image(0);
        Deck.says(x, "f1.");
        x.restore(0);
        DUE.is("the pad is as it is now: told(0)", x.told(0), 3);
        DUE.is("behind(5)", x.behind(5), 1);
        DUE.is("behind(2)", x.behind(2), -6);
        x.wipe();
        x.restore(0);
        DUE.is("no sign comes again: told(0)", x.told(0), 0);
        DUE.is("nobody is up: behind(2)", x.behind(2), -6);
        x.say('!');
        x.restore(0);
        DUE.is("a fault stays: fault()", x.fault(), 0);
        x.image(1);
        DUE.is("a fault is kept in none: told(0)", x.told(0), 1);
    }

    private static void eachPartIsRestored() {
        DUE.sentence("It is as it was when it was kept: 1.");
        MastPulpits x = new MastPulpits();
        change(x);
        x.image(0);
        long[] kept = Deck.all(x);
        x.land(0, 0);
        x.land(2, 1);
        x.ship(27, 0);
        for (int watcher = 0; watcher <= 5; watcher++) {
            x.watcher(watcher, 1);
        }
        x.fog(0);
        x.forget();
        x.look(0, 0, true);
        Deck.sails(x, "F_...");
        x.wipe();
        DUE.is("restore(0)", x.restore(0), 1);
        DUE.same("all", Deck.all(x), kept);
        DUE.is("the ship is there: land(9, 1)", x.land(9, 1), -3);
        DUE.is("room for six sights: look(62, 0, true)", x.look(62, 0, true), 3);
        DUE.is("by all three: light(-1)", x.light(-1), 0);
    }

    private static void upAndHours() {
        DUE.sentence("It is as it was when it was kept .. 4 who is UP (NONE), 5 for how many hours (NONE), 6 FOG, "
            + "7 the hour");
        MastPulpits x = Deck.sails(new MastPulpits(), "C^..");
        x.image(0);
        Deck.sails(x, "C_");
        x.image(1);
        Deck.sails(x, "A^.");
        x.restore(0);
        DUE.is("told(4)", x.told(4), 2);
        DUE.is("told(5)", x.told(5), 2);
        DUE.is("told(7)", x.told(7), 2);
        x.restore(1);
        DUE.is("told(4)", x.told(4), -6);
        DUE.is("told(5)", x.told(5), -6);
        MastPulpits last = Deck.waits(new MastPulpits(), 99);
        last.image(0);
        last.restore(0);
        DUE.is("hour 99 stays", Deck.says(last, ".").judge(1), 6);
    }

    private static void otherImageStays() {
        DUE.sentence("kept in an IMAGE (0, 1)");
        MastPulpits x = new MastPulpits();
        x.image(0);
        change(x);
        x.image(1);
        x.restore(0);
        DUE.is("told(2)", x.told(2), 27);
        x.ship(5, 5);
        x.restore(1);
        DUE.is("told(2)", x.told(2), 9);
        x.restore(0);
        DUE.is("told(2)", x.told(2), 27);
    }
}
