/** Promises 1 to 8 and 26, and part 1 of the terms: each sentence that names an edge has a test of its own. */
public final class EdgeSeaTest {
    private static final Due DUE = new Due();
    private static final int MAX = Deck.MAX, MIN = Deck.MIN;

    public static void main(String[] args) {
        newObject();
        land();
        ship();
        watcher();
        fog();
        say();
        wipe();
        fault();
        told();
        DUE.end();
    }

    // ---- 1 a new object

    private static void newObject() {
        noLandAtFirst();
        shipAtFirst();
        hullAtFirst();
        eyesAtFirst();
        nobodyUpAtFirst();
        fogAtFirst();
        hourAtFirst();
        nothingElseAtFirst();
        twoObjects();
        lastOf512();
    }

    private static void noLandAtFirst() {
        DUE.sentence("Some are LAND (none at first).");
        MastPulpits x = new MastPulpits();
        DUE.is("told(1)", x.told(1), 0);
        for (int cell = 0; cell < 64; cell++) {
            DUE.is("told(100 + " + cell + ")", x.told(100 + cell), 0);
        }
        DUE.is("land(0, 0)", x.land(0, 0), 0);
    }

    private static void shipAtFirst() {
        DUE.sentence("The SHIP is on a CELL that is no LAND (27 at first)");
        DUE.is("told(2)", new MastPulpits().told(2), 27);
        DUE.is("behind(0)", new MastPulpits().behind(0), 27);
        DUE.is("ship(0, 1)", new MastPulpits().ship(0, 1), 27);
        DUE.is("land(27, 1)", new MastPulpits().land(27, 1), -3);
    }

    private static void hullAtFirst() {
        DUE.sentence("has a HULL of 0 to 9 (3 at first)");
        MastPulpits x = new MastPulpits();
        DUE.is("told(3)", x.told(3), 3);
        x.land(28, 1);
        Deck.says(x, "A^w2w2w2");
        DUE.is("three times: behind(1)", x.behind(1), 0);
        Deck.says(x, "A^w2w2w2w2");
        DUE.is("a fourth time: judge(0)", x.judge(0), 4);
        DUE.is("a fourth time: judge(1)", x.judge(1), 3);
    }

    private static void eyesAtFirst() {
        DUE.sentence("WATCHERS 0 to 5 (A to F) each have EYES of 1 to 7 (4 at first)");
        for (int watcher = 0; watcher <= 5; watcher++) {
            MastPulpits x = Deck.withLand(31);
            x.ship(26, 3);
            DUE.is("told(10 + " + watcher + ")", x.told(10 + watcher), 4);
            Deck.says(x, (char) ('A' + watcher) + "^");
            DUE.is("land that is 5 far", x.seen(0), 0);
            x.ship(27, 3);
            DUE.is("land that is 4 far", x.seen(0), 1);
        }
    }

    private static void nobodyUpAtFirst() {
        DUE.sentence("one of them is UP, or nobody (at first)");
        MastPulpits x = new MastPulpits();
        DUE.is("told(4)", x.told(4), -6);
        DUE.is("told(5)", x.told(5), -6);
        DUE.is("seen(0)", x.seen(0), -6);
        for (char watcher = 'A'; watcher <= 'F'; watcher++) {
            DUE.is(watcher + "_: judge(1)", Deck.says(x, watcher + "_").judge(1), 1);
            DUE.is(watcher + "^: judge(1)", Deck.says(x, watcher + "^").judge(1), -6);
        }
    }

    private static void fogAtFirst() {
        DUE.sentence("FOG is 0 to 7 (0 at first).");
        DUE.is("told(6)", new MastPulpits().told(6), 0);
        DUE.is("f0: judge(1)", Deck.with("f0").judge(1), 5);
        DUE.is("fog(7)", new MastPulpits().fog(7), 0);
    }

    private static void hourAtFirst() {
        DUE.sentence("It is hour 0 at first.");
        DUE.is("told(7)", new MastPulpits().told(7), 0);
        DUE.is("behind(5)", new MastPulpits().behind(5), 0);
        DUE.is("behind(5) of an hour", Deck.with(".").behind(5), 1);
    }

    private static void nothingElseAtFirst() {
        DUE.sentence("A sea without land.");
        MastPulpits x = new MastPulpits();
        DUE.is("no sign: told(0)", x.told(0), 0);
        DUE.is("no sign: wipe()", x.wipe(), 0);
        DUE.is("no fault: fault()", x.fault(), -6);
        DUE.is("no sight: told(8)", x.told(8), 0);
        DUE.is("no sight: forget()", x.forget(), 0);
        DUE.is("no sight: light(-1)", x.light(-1), 64);
        DUE.is("no image: restore(0)", x.restore(0), -3);
        DUE.is("no image: restore(1)", x.restore(1), -3);
        DUE.is("no land: course(0, 63, 0)", x.course(0, 63, 0), 7);
    }

    private static void twoObjects() {
        DUE.sentence("MastPulpits()");
        MastPulpits x = Deck.withLand(1, 28);
        x.ship(0, 9);
        x.watcher(0, 7);
        x.look(0, 0, true);
        x.image(0);
        x.say('A');
        MastPulpits y = new MastPulpits();
        DUE.same("an object made later is new", Deck.all(y), Deck.all(new MastPulpits()));
        DUE.is("and has no image: restore(0)", y.restore(0), -3);
        DUE.is("the first one has its land: told(1)", x.told(1), 2);
    }

    private static void lastOf512() {
        DUE.sentence("An object is used for at most 512 calls after it has been made");
        MastPulpits x = new MastPulpits();
        for (int call = 1; call <= 128; call++) {
            DUE.is("fog", x.fog(call % 8), (call - 1) % 8);
            DUE.is("ask(0)", x.ask(0), 14);
            DUE.is("ropes(987654321, 9, 9, 0)", x.ropes(987654321, 9, 9, 0), 5);
            DUE.is("the call before the next: told(6)", x.told(6), call % 8);
        }
    }

    // ---- 2 land

    private static void land() {
        landCells();
        landOrNone();
        landOfAll();
        landIs();
        landUnderTheShip();
        landAgainstTheShipThatIs();
    }

    private static void landCells() {
        DUE.sentence("The SEA has CELLS 0 to 63: .. UNKNOWN -1 (there is no such CELL, WATCHER)");
        MastPulpits x = new MastPulpits();
        DUE.is("land(0, 1)", x.land(0, 1), 1);
        DUE.is("land(63, 1)", x.land(63, 1), 2);
        DUE.is("told(100)", x.told(100), 1);
        DUE.is("told(163)", x.told(163), 1);
        for (int cell : Deck.beside(0, 63)) {
            DUE.is("land(" + cell + ", 1)", x.land(cell, 1), -1);
            DUE.is("land(" + cell + ", 0)", x.land(cell, 0), -1);
        }
        DUE.is("told(1)", x.told(1), 2);
    }

    private static void landOrNone() {
        DUE.sentence("A CELL is LAND (1), or none (0): how many are.");
        MastPulpits x = new MastPulpits();
        DUE.is("none that was none", x.land(5, 0), 0);
        DUE.is("land that was none", x.land(5, 1), 1);
        DUE.is("land that was land", x.land(5, 1), 1);
        DUE.is("none that was land", x.land(5, 0), 0);
        DUE.is("told(105)", x.told(105), 0);
    }

    private static void landOfAll() {
        DUE.sentence("how many are");
        MastPulpits x = new MastPulpits();
        int many = 0;
        for (int cell = 0; cell < 64; cell++) {
            many += cell == 27 ? 0 : 1;
            DUE.is("land(" + cell + ", 1)", x.land(cell, 1), cell == 27 ? -3 : many);
        }
        DUE.is("all but where the ship is: told(1)", x.told(1), 63);
        for (int cell = 63; cell >= 0; cell--) {
            many -= cell == 27 ? 0 : 1;
            DUE.is("land(" + cell + ", 0)", x.land(cell, 0), many);
        }
        DUE.is("told(1)", x.told(1), 0);
    }

    private static void landIs() {
        DUE.sentence("UNKNOWN; OUTSIDE; STATE (1): the SHIP is there.");
        MastPulpits x = new MastPulpits();
        for (int is : Deck.beside(0, 1)) {
            DUE.is("land(0, " + is + ")", x.land(0, is), -2);
            DUE.is("land(27, " + is + "), where the ship is", x.land(27, is), -2);
            DUE.is("land(64, " + is + ")", x.land(64, is), -1);
        }
        DUE.is("told(1)", x.told(1), 0);
    }

    private static void landUnderTheShip() {
        DUE.sentence("STATE (1): the SHIP is there.");
        MastPulpits x = new MastPulpits();
        DUE.is("land(27, 1)", x.land(27, 1), -3);
        DUE.is("told(127)", x.told(127), 0);
        DUE.is("land(27, 0)", x.land(27, 0), 0);
        x.land(0, 1);
        DUE.is("land(27, 0), one elsewhere", x.land(27, 0), 1);
        x.ship(63, 0);
        DUE.is("where the ship was", x.land(27, 1), 2);
        DUE.is("where the ship is", x.land(63, 1), -3);
    }

    private static void landAgainstTheShipThatIs() {
        DUE.sentence("the SHIP is there. .. VOYAGES are DONE");
        MastPulpits x = Deck.with("A^w2");
        DUE.is("where a text leads, not done", x.land(28, 1), 1);
        DUE.is("where the ship is yet", x.land(27, 1), -3);
        x.land(28, 0);
        x.done();
        DUE.is("where it led, done", x.land(28, 1), -3);
        DUE.is("where it came from", x.land(27, 1), 1);
    }

    // ---- 3 ship

    private static void ship() {
        shipCells();
        shipHull();
        shipOnLand();
        shipWhereItIs();
    }

    private static void shipCells() {
        DUE.sentence("The SHIP is on a CELL, its HULL: on which it was. UNKNOWN");
        MastPulpits x = new MastPulpits();
        DUE.is("ship(0, 1)", x.ship(0, 1), 27);
        DUE.is("ship(63, 1)", x.ship(63, 1), 0);
        for (int cell : Deck.beside(0, 63)) {
            DUE.is("ship(" + cell + ", 1)", x.ship(cell, 1), -1);
            DUE.is("ship(" + cell + ", 10)", x.ship(cell, 10), -1);
        }
        DUE.is("told(2)", x.told(2), 63);
    }

    private static void shipHull() {
        DUE.sentence("a HULL of 0 to 9");
        MastPulpits x = Deck.withLand(5);
        x.ship(1, 0);
        DUE.is("told(3)", x.told(3), 0);
        x.ship(2, 9);
        DUE.is("told(3)", x.told(3), 9);
        for (int hull : Deck.beside(0, 9)) {
            DUE.is("ship(3, " + hull + ")", x.ship(3, hull), -2);
            DUE.is("ship(5, " + hull + "), land", x.ship(5, hull), -2);
        }
        DUE.is("told(2)", x.told(2), 2);
        DUE.is("told(3)", x.told(3), 9);
    }

    private static void shipOnLand() {
        DUE.sentence("STATE: LAND.");
        MastPulpits x = Deck.withLand(0, 63);
        DUE.is("ship(0, 7)", x.ship(0, 7), -3);
        DUE.is("ship(63, 7)", x.ship(63, 7), -3);
        DUE.is("told(2)", x.told(2), 27);
        DUE.is("told(3)", x.told(3), 3);
        x.land(0, 0);
        DUE.is("ship(0, 7), land no more", x.ship(0, 7), 27);
        DUE.is("told(3)", x.told(3), 7);
    }

    private static void shipWhereItIs() {
        DUE.sentence("on which it was");
        MastPulpits x = new MastPulpits();
        DUE.is("ship(27, 8)", x.ship(27, 8), 27);
        DUE.is("told(3)", x.told(3), 8);
        Deck.sails(x, "A^w2.");
        DUE.is("ship(0, 1)", x.ship(0, 1), 28);
        DUE.is("who is up stays so: told(4)", x.told(4), 0);
        DUE.is("for as many hours: told(5)", x.told(5), 1);
    }

    // ---- 4 watcher

    private static void watcher() {
        watchers();
        eyes();
        letters();
    }

    private static void watchers() {
        DUE.sentence("EYES of a WATCHER: which they were. UNKNOWN");
        MastPulpits x = new MastPulpits();
        DUE.is("watcher(0, 7)", x.watcher(0, 7), 4);
        DUE.is("watcher(5, 1)", x.watcher(5, 1), 4);
        DUE.is("watcher(0, 2)", x.watcher(0, 2), 7);
        DUE.is("watcher(5, 2)", x.watcher(5, 2), 1);
        for (int watcher : Deck.beside(0, 5)) {
            DUE.is("watcher(" + watcher + ", 1)", x.watcher(watcher, 1), -1);
            DUE.is("watcher(" + watcher + ", 8)", x.watcher(watcher, 8), -1);
        }
        int[] due = {2, 4, 4, 4, 4, 2};
        for (int watcher = 0; watcher < 6; watcher++) {
            DUE.is("told(10 + " + watcher + ")", x.told(10 + watcher), due[watcher]);
        }
    }

    private static void eyes() {
        DUE.sentence("EYES of 1 to 7");
        MastPulpits x = new MastPulpits();
        DUE.is("watcher(3, 1)", x.watcher(3, 1), 4);
        DUE.is("watcher(3, 7)", x.watcher(3, 7), 1);
        for (int eyes : Deck.beside(1, 7)) {
            DUE.is("watcher(3, " + eyes + ")", x.watcher(3, eyes), -2);
        }
        DUE.is("told(13)", x.told(13), 7);
    }

    private static void letters() {
        DUE.sentence("WATCHERS 0 to 5 (A to F)");
        for (int watcher = 0; watcher <= 5; watcher++) {
            MastPulpits x = Deck.withLand(0);
            x.ship(7, 3);
            x.watcher(watcher, 7);
            for (int up = 0; up <= 5; up++) {
                Deck.says(x, (char) ('A' + up) + "^");
                DUE.is("behind(2)", x.behind(2), up);
                DUE.is("seen(0)", x.seen(0), up == watcher ? 1 : 0);
            }
        }
    }

    // ---- 5 fog

    private static void fog() {
        DUE.sentence("FOG: how much there was. OUTSIDE.");
        MastPulpits x = new MastPulpits();
        DUE.is("fog(7)", x.fog(7), 0);
        for (int v : Deck.beside(0, 7)) {
            DUE.is("fog(" + v + ")", x.fog(v), -2);
        }
        DUE.is("fog(7), as it is already", x.fog(7), 7);
        DUE.is("fog(0)", x.fog(0), 7);
        DUE.is("fog(0), as it is already", x.fog(0), 0);
    }

    // ---- 6 say

    private static void say() {
        codes();
        sixtySigns();
        outsideWhenFull();
    }

    private static void codes() {
        DUE.sentence("signs (codes 33 to 126)");
        MastPulpits x = new MastPulpits();
        DUE.is("say(33)", x.say(33), 1);
        DUE.is("say(126)", x.say(126), 2);
        for (int sign : Deck.beside(33, 126)) {
            DUE.is("say(" + sign + ")", x.say(sign), -2);
        }
        int[] wrapped = {0, -1, 'A' - 256, 'A' + 128, 'A' + 256, 'A' + 65536, 'A' + (1 << 24)};
        for (int sign : wrapped) {
            DUE.is("say(" + sign + ")", x.say(sign), -2);
        }
        DUE.is("told(0)", x.told(0), 2);
    }

    private static void sixtySigns() {
        DUE.sentence("A sign more: how many. OUTSIDE; FULL.");
        MastPulpits x = new MastPulpits();
        for (int many = 1; many <= 60; many++) {
            DUE.is("say('.') to " + many, x.say('.'), many);
        }
        DUE.is("the 61st", x.say('.'), -4);
        DUE.is("the 61st again", x.say('.'), -4);
        DUE.is("told(0)", x.told(0), 60);
        DUE.is("behind(5)", x.behind(5), 60);
        DUE.is("done()", x.done(), 60);
        DUE.is("room again: say('c')", x.say('c'), 1);
    }

    private static void outsideWhenFull() {
        DUE.sentence("OUTSIDE; FULL");
        MastPulpits x = Deck.with(".".repeat(60));
        DUE.is("say(32)", x.say(32), -2);
        DUE.is("say(127)", x.say(127), -2);
        DUE.is("say(33)", x.say(33), -4);
        DUE.is("say(126)", x.say(126), -4);
    }

    // ---- 7 wipe

    private static void wipe() {
        DUE.sentence("Signs go: how many there were.");
        MastPulpits x = new MastPulpits();
        DUE.is("of none", x.wipe(), 0);
        Deck.says(x, ".".repeat(60));
        DUE.is("of sixty", x.wipe(), 60);
        DUE.is("told(0)", x.told(0), 0);
        DUE.is("a second time", x.wipe(), 0);
        DUE.is("what went has no hour: behind(5)", x.behind(5), 0);
        DUE.is("say('w')", x.say('w'), 1);
        DUE.is("what went stands behind no sign: fault()", x.fault(), 1);
        DUE.is("of one", x.wipe(), 1);
        Deck.says(x, "A^");
        x.wipe();
        x.say('A');
        DUE.is("an old second sign is no second sign: fault()", x.fault(), 1);
    }

    // ---- 8 fault

    private static void fault() {
        noSigns();
        firstSigns();
        secondSigns();
        signsBehindAnAct();
        moreMustCome();
        theFirstOfTwo();
        aSignChangesIt();
    }

    private static void noSigns() {
        DUE.sentence("(an empty PAD has no FAULT: no ACTS)");
        MastPulpits x = new MastPulpits();
        DUE.is("fault()", x.fault(), -6);
        DUE.is("judge(0)", x.judge(0), -6);
        DUE.is("done()", x.done(), 0);
        x.say('!');
        x.wipe();
        DUE.is("fault(), wiped", x.fault(), -6);
    }

    private static void firstSigns() {
        DUE.sentence("the place (from 0 on) of the first sign that can not stand there");
        MastPulpits x = new MastPulpits();
        for (char sign = 33; sign <= 126; sign++) {
            int due = "c.".indexOf(sign) >= 0 ? -6 : "ABCDEFwf".indexOf(sign) >= 0 ? 1 : 0;
            DUE.is("fault of " + sign, Deck.says(x, "" + sign).fault(), due);
        }
    }

    private static void secondSigns() {
        DUE.sentence("a WATCHER's letter and ^ .. or _ .. w and a digit 0 to 7 .. f and a digit 0 to 7");
        for (char first : "ABCDEFwf".toCharArray()) {
            MastPulpits x = new MastPulpits();
            String seconds = first <= 'F' ? "^_" : "01234567";
            for (char sign = 33; sign <= 126; sign++) {
                int due = seconds.indexOf(sign) >= 0 ? -6 : 1;
                DUE.is("fault of " + first + sign, Deck.says(x, "" + first + sign).fault(), due);
            }
        }
    }

    private static void signsBehindAnAct() {
        DUE.sentence("VOYAGES are a text on a PAD of up to 60 signs (codes 33 to 126) of ACTS .. the first sign "
            + "that can not stand there");
        for (String act : new String[] {"c", ".", "A^", "F_", "w0", "f7"}) {
            int place = act.length();
            for (char sign = 33; sign <= 126; sign++) {
                int due = "c.".indexOf(sign) >= 0 ? -6 : "ABCDEFwf".indexOf(sign) >= 0 ? place + 1 : place;
                DUE.is("fault of " + act + sign, Deck.with(act + sign).fault(), due);
            }
        }
    }

    private static void moreMustCome() {
        DUE.sentence("or the number of signs, if more must come");
        MastPulpits x = new MastPulpits();
        for (String first : new String[] {"A", "F", "w", "f"}) {
            DUE.is("fault of " + first, Deck.says(x, first).fault(), 1);
            DUE.is("fault of A^" + first, Deck.says(x, "A^" + first).fault(), 3);
            DUE.is("fault of a full pad", Deck.says(x, ".".repeat(59) + first).fault(), 60);
        }
        DUE.is("none must: thirty acts of two signs", Deck.says(x, "A^A_".repeat(15)).fault(), -6);
        DUE.is("none must: sixty of one", Deck.says(x, ".".repeat(60)).fault(), -6);
    }

    private static void theFirstOfTwo() {
        DUE.sentence("of the first sign that can not stand there");
        MastPulpits x = new MastPulpits();
        DUE.is("fault of c!!", Deck.says(x, "c!!").fault(), 1);
        DUE.is("fault of A!A", Deck.says(x, "A!A").fault(), 1);
        DUE.is("fault of !A^", Deck.says(x, "!A^").fault(), 0);
        DUE.is("fault of cc9wA", Deck.says(x, "cc9wA").fault(), 2);
        DUE.is("fault at the last of sixty", Deck.says(x, ".".repeat(59) + "!").fault(), 59);
        DUE.is("fault at a last second", Deck.says(x, ".".repeat(58) + "w8").fault(), 59);
    }

    private static void aSignChangesIt() {
        DUE.sentence("(a sign that is said changes what fault() tells)");
        MastPulpits x = new MastPulpits();
        x.say('A');
        DUE.is("fault of A", x.fault(), 1);
        DUE.is("a sign that is refused", x.say(32), -2);
        DUE.is("does not", x.fault(), 1);
        x.say('^');
        DUE.is("fault of A^", x.fault(), -6);
        x.say('g');
        DUE.is("fault of A^g", x.fault(), 2);
        x.say('c');
        DUE.is("it stays where the first one is", x.fault(), 2);
        DUE.is("and the sign is there", x.told(0), 4);
    }

    // ---- 26 told

    private static void told() {
        toldNumbers();
        toldOutside();
        toldUp();
        toldSigns();
    }

    private static void toldNumbers() {
        DUE.sentence("8 SIGHTS; 10 and a WATCHER: EYES; 100 and a CELL: LAND (1, 0)");
        MastPulpits x = Deck.withLand(0, 63);
        x.watcher(0, 1);
        x.watcher(5, 7);
        x.look(0, 0, true);
        int[][] due = {{0, 0}, {1, 2}, {2, 27}, {3, 3}, {4, -6}, {5, -6}, {6, 0}, {7, 0}, {8, 1}, {10, 1}, {11, 4},
            {14, 4}, {15, 7}, {100, 1}, {101, 0}, {162, 0}, {163, 1}};
        for (int[] one : due) {
            DUE.is("told(" + one[0] + ")", x.told(one[0]), one[1]);
        }
    }

    private static void toldOutside() {
        DUE.sentence("LAND (1, 0). OUTSIDE.");
        MastPulpits x = new MastPulpits();
        for (int what = 16; what <= 99; what++) {
            DUE.is("told(" + what + ")", x.told(what), -2);
        }
        int[] outside = {-1, -2, -6, 9, 164, 165, 200, 1000, MAX, MAX - 1, MIN, MIN + 1, MIN + 9, MIN + 10, MIN + 100};
        for (int what : outside) {
            DUE.is("told(" + what + ")", x.told(what), -2);
        }
    }

    private static void toldUp() {
        DUE.sentence("4 who is UP (NONE), 5 for how many hours (NONE)");
        MastPulpits x = Deck.sails(new MastPulpits(), "A^");
        DUE.is("told(4)", x.told(4), 0);
        DUE.is("told(5)", x.told(5), 0);
        Deck.sails(x, "..F^.");
        DUE.is("told(4)", x.told(4), 5);
        DUE.is("told(5)", x.told(5), 1);
        Deck.sails(x, "F_");
        DUE.is("told(4)", x.told(4), -6);
        DUE.is("told(5)", x.told(5), -6);
    }

    private static void toldSigns() {
        DUE.sentence("0 signs, 1 how many CELLS are LAND");
        MastPulpits x = new MastPulpits();
        DUE.is("told(0)", x.told(0), 0);
        x.say('!');
        DUE.is("told(0), a sign that can not stand there", x.told(0), 1);
        Deck.says(x, ".".repeat(60));
        x.say('.');
        DUE.is("told(0), full", x.told(0), 60);
        x.restore(0);
        x.done();
        DUE.is("told(0), done", x.told(0), 0);
    }
}
