/** Calls that are refused: each by its least, its most and what lies beside; in which order; they change nothing. */
public final class RefusalTest {
    private static final Due DUE = new Due();
    private static final int UNKNOWN = -1, OUTSIDE = -2, STATE = -3, FULL = -4, NO = -5;
    private static final int SHIP = 9, LAND = 28;
    private static final String FAULTY = "A^c!", CAN_NOT = "A^cA^", FULL_PAD = ".".repeat(60);
    private static final String ALL_WRONG = "B^!";

    private interface Call {
        long on(MastPulpits x);
    }

    private interface Numbered {
        long on(MastPulpits x, int number);
    }

    public static void main(String[] args) {
        seaCalls();
        voyageCalls();
        waterCalls();
        lightCalls();
        keptCalls();
        askingChangesNothing();
        DUE.end();
    }

    /** An object on which nothing is as at first; image 0 is kept, image 1 is not. */
    private static MastPulpits busy(String text, int sights) {
        MastPulpits x = Deck.withLand(1, LAND, 63);
        x.ship(5, 2);
        x.look(0, 1, true);
        x.image(0);
        x.ship(SHIP, 5);
        for (int watcher = 0; watcher <= 5; watcher++) {
            x.watcher(watcher, watcher + 2);
        }
        Deck.sails(x, "B^.");
        x.fog(6);
        for (int sight = 2; sight <= sights; sight++) {
            x.look(9, 0, false);
        }
        return Deck.says(x, text);
    }

    private static void refused(MastPulpits x, String call, long due, Call made) {
        int signs = x.told(0);
        long[] before = Deck.all(x);
        DUE.is(call, made.on(x), due);
        DUE.is(call + " a second time", made.on(x), due);
        DUE.same(call + " changes nothing", Deck.all(x), before);
        DUE.is(call + " keeps no image", x.restore(1), STATE);
        DUE.is(call + " leaves the image", x.restore(0), 1);
        DUE.is("its ship: told(2)", x.told(2), 5);
        DUE.is("its hull: told(3)", x.told(3), 2);
        DUE.is("its sights: told(8)", x.told(8), 1);
        DUE.is("its cells: light(-1)", x.light(-1), 4);
        DUE.is("nobody up: told(4)", x.told(4), -6);
        DUE.is("the pad is not its own: told(0)", x.told(0), signs);
    }

    private static void refused(String call, long due, Call made) {
        refused(busy("A^c", 3), call, due, made);
    }

    /** Every number beside the range is refused, whatever the other numbers are. */
    private static void beside(String call, int least, int most, long due, Numbered made) {
        for (int number : Deck.beside(least, most)) {
            refused(call + " by " + number, due, x -> made.on(x, number));
        }
    }

    // ---- promises 2 to 8

    private static void seaCalls() {
        DUE.sentence("A CELL is LAND (1), or none (0): how many are. UNKNOWN; OUTSIDE; STATE (1): the SHIP is there.");
        beside("land(cell, 1)", 0, 63, UNKNOWN, (x, cell) -> x.land(cell, 1));
        beside("land(cell, 2)", 0, 63, UNKNOWN, (x, cell) -> x.land(cell, 2));
        beside("land(0, is)", 0, 1, OUTSIDE, (x, is) -> x.land(0, is));
        beside("land(ship, is)", 0, 1, OUTSIDE, (x, is) -> x.land(SHIP, is));
        refused("land(ship, 1)", STATE, x -> x.land(SHIP, 1));
        DUE.sentence("The SHIP is on a CELL, its HULL: on which it was. UNKNOWN; OUTSIDE; STATE: LAND.");
        beside("ship(cell, 3)", 0, 63, UNKNOWN, (x, cell) -> x.ship(cell, 3));
        beside("ship(cell, 10)", 0, 63, UNKNOWN, (x, cell) -> x.ship(cell, 10));
        beside("ship(0, hull)", 0, 9, OUTSIDE, (x, hull) -> x.ship(0, hull));
        beside("ship(land, hull)", 0, 9, OUTSIDE, (x, hull) -> x.ship(LAND, hull));
        refused("ship(land, 3)", STATE, x -> x.ship(LAND, 3));
        DUE.sentence("EYES of a WATCHER: which they were. UNKNOWN; OUTSIDE.");
        beside("watcher(watcher, 1)", 0, 5, UNKNOWN, (x, watcher) -> x.watcher(watcher, 1));
        beside("watcher(watcher, 0)", 0, 5, UNKNOWN, (x, watcher) -> x.watcher(watcher, 0));
        beside("watcher(0, eyes)", 1, 7, OUTSIDE, (x, eyes) -> x.watcher(0, eyes));
        DUE.sentence("FOG: how much there was. OUTSIDE.");
        beside("fog(v)", 0, 7, OUTSIDE, (x, v) -> x.fog(v));
        DUE.sentence("A sign more: how many. OUTSIDE; FULL.");
        beside("say(sign)", 33, 126, OUTSIDE, (x, sign) -> x.say(sign));
        refused(busy(FULL_PAD, 3), "say('.')", FULL, x -> x.say('.'));
        refused(busy(FULL_PAD, 3), "say('!')", FULL, x -> x.say('!'));
        refused(busy(FULL_PAD, 3), "say(32)", OUTSIDE, x -> x.say(32));
        refused(busy(FULL_PAD, 3), "say(127)", OUTSIDE, x -> x.say(127));
    }

    // ---- promises 9 to 13

    private static void voyageCalls() {
        DUE.sentence("JUDGED: the ACT (what = 0), why (1), how often (2); NONE. OUTSIDE; NO: there is a FAULT; "
            + "STATE (2): some ACT can not be.");
        voyageCall("judge", 2, (x, what) -> x.judge(what));
        refused(busy(CAN_NOT, 3), "judge(2)", STATE, x -> x.judge(2));
        DUE.is("judge(0), for all that", busy(CAN_NOT, 3).judge(0), 2);
        DUE.is("judge(1), for all that", busy(CAN_NOT, 3).judge(1), 1);
        DUE.sentence("BEHIND: the SHIP (what = 0), HULL (1), who (2; NONE), hours (3; NONE), FOG (4), the hour "
            + "(5). OUTSIDE; NO, STATE, as of judge(2).");
        voyageCall("behind", 5, (x, what) -> x.behind(what));
        canNotBe("behind", 5, (x, what) -> x.behind(what));
        DUE.sentence("SEEN: how many (what = 0), how FAR (1), which (2); NONE. OUTSIDE; NO, STATE, likewise.");
        voyageCall("seen", 2, (x, what) -> x.seen(what));
        canNotBe("seen", 2, (x, what) -> x.seen(what));
        DUE.sentence("SILENCE: the ACT (what = 0; NONE), calls (1). OUTSIDE; NO, STATE, likewise.");
        voyageCall("silence", 1, (x, what) -> x.silence(what));
        canNotBe("silence", 1, (x, what) -> x.silence(what));
        DUE.sentence("VOYAGES are DONE (the PAD is empty then): ACTS. NO, STATE, likewise.");
        refused(busy(FAULTY, 3), "done()", NO, x -> x.done());
        refused(busy(ALL_WRONG, 3), "done()", NO, x -> x.done());
        refused(busy(CAN_NOT, 3), "done()", STATE, x -> x.done());
    }

    private static void voyageCall(String call, int mostWhat, Numbered made) {
        beside(call + "(what)", 0, mostWhat, OUTSIDE, made);
        for (String text : new String[] {FAULTY, CAN_NOT, ALL_WRONG, ""}) {
            for (int what : Deck.beside(0, mostWhat)) {
                refused(busy(text, 3), call + "(" + what + ") of " + text, OUTSIDE, x -> made.on(x, what));
            }
        }
        for (int what = 0; what <= mostWhat; what++) {
            int number = what;
            refused(busy(FAULTY, 3), call + "(" + what + ") of " + FAULTY, NO, x -> made.on(x, number));
            refused(busy(ALL_WRONG, 3), call + "(" + what + ") of " + ALL_WRONG, NO, x -> made.on(x, number));
        }
    }

    private static void canNotBe(String call, int mostWhat, Numbered made) {
        for (int what = 0; what <= mostWhat; what++) {
            int number = what;
            refused(busy(CAN_NOT, 3), call + "(" + what + ") of " + CAN_NOT, STATE, x -> made.on(x, number));
        }
    }

    // ---- promises 14 to 16

    private static void waterCalls() {
        DUE.sentence("COURSE: how many (what = 0), the WAY (1); NONE. UNKNOWN: both; OUTSIDE.");
        beside("course(from, 0, 0)", 0, 63, UNKNOWN, (x, from) -> x.course(from, 0, 0));
        beside("course(0, to, 0)", 0, 63, UNKNOWN, (x, to) -> x.course(0, to, 0));
        beside("course(from, to, 2)", 0, 63, UNKNOWN, (x, cell) -> x.course(cell, cell, 2));
        beside("course(land, to, 0)", 0, 63, UNKNOWN, (x, to) -> x.course(LAND, to, 0));
        beside("course(0, 2, what)", 0, 1, OUTSIDE, (x, what) -> x.course(0, 2, what));
        beside("course(land, land, what)", 0, 1, OUTSIDE, (x, what) -> x.course(LAND, LAND, what));
        DUE.sentence("CROSS: how many (what = 0), the least (1; NONE). UNKNOWN: both; OUTSIDE: both WAYS, what.");
        beside("cross(a, 0, 0, 0, 0)", 0, 63, UNKNOWN, (x, a) -> x.cross(a, 0, 0, 0, 0));
        beside("cross(0, 0, b, 0, 0)", 0, 63, UNKNOWN, (x, b) -> x.cross(0, 0, b, 0, 0));
        beside("cross(a, 8, 0, 8, 2)", 0, 63, UNKNOWN, (x, a) -> x.cross(a, 8, 0, 8, 2));
        beside("cross(0, 8, b, 8, 2)", 0, 63, UNKNOWN, (x, b) -> x.cross(0, 8, b, 8, 2));
        beside("cross(0, d, 0, 0, 0)", 0, 7, OUTSIDE, (x, d) -> x.cross(0, d, 0, 0, 0));
        beside("cross(0, 0, 0, e, 0)", 0, 7, OUTSIDE, (x, e) -> x.cross(0, 0, 0, e, 0));
        beside("cross(0, 0, 0, 0, what)", 0, 1, OUTSIDE, (x, what) -> x.cross(0, 0, 0, 0, what));
        DUE.sentence("ROPES: how many (what = 0), pieces (1). OUTSIDE: n, a digit 0, other than n digits, l, what.");
        beside("ropes(1, n, 9, 0)", 1, 9, OUTSIDE, (x, n) -> x.ropes(1, n, 9, 0));
        beside("ropes(12, 2, l, 0)", 9, 30, OUTSIDE, (x, l) -> x.ropes(12, 2, l, 0));
        beside("ropes(12, 2, 9, what)", 0, 1, OUTSIDE, (x, what) -> x.ropes(12, 2, 9, what));
        beside("ropes(row, 9, 9, 0)", 111111111, 999999999, OUTSIDE, (x, row) -> x.ropes(row, 9, 9, 0));
        refused("ropes(10, 2, 9, 0)", OUTSIDE, x -> x.ropes(10, 2, 9, 0));
        refused("ropes(12, 1, 9, 0)", OUTSIDE, x -> x.ropes(12, 1, 9, 0));
    }

    // ---- promises 17 to 22

    private static void lightCalls() {
        DUE.sentence("A SIGHT more: how many. UNKNOWN; OUTSIDE: e; FULL.");
        beside("look(cell, 0, true)", 0, 63, UNKNOWN, (x, cell) -> x.look(cell, 0, true));
        beside("look(cell, 8, false)", 0, 63, UNKNOWN, (x, cell) -> x.look(cell, 8, false));
        beside("look(0, e, true)", 0, 7, OUTSIDE, (x, e) -> x.look(0, e, true));
        beside("look(0, e, false)", 0, 7, OUTSIDE, (x, e) -> x.look(0, e, false));
        refused(busy("", 8), "look(0, 0, true)", FULL, x -> x.look(0, 0, true));
        refused(busy("", 8), "look(0, 0, false)", FULL, x -> x.look(0, 0, false));
        refused(busy("", 8), "look(0, 8, true)", OUTSIDE, x -> x.look(0, 8, true));
        refused(busy("", 8), "look(64, 8, true)", UNKNOWN, x -> x.look(64, 8, true));
        DUE.sentence("ASK: from where, by what (what = 0), how many (1); NONE: nothing fits. OUTSIDE.");
        beside("ask(what)", 0, 1, OUTSIDE, (x, what) -> x.ask(what));
        DUE.sentence("TACK: whether (what = 0), the CELL (1; NONE). UNKNOWN; OUTSIDE.");
        beside("tack(cell, 0)", 0, 63, UNKNOWN, (x, cell) -> x.tack(cell, 0));
        beside("tack(cell, 2)", 0, 63, UNKNOWN, (x, cell) -> x.tack(cell, 2));
        beside("tack(63, what)", 0, 1, OUTSIDE, (x, what) -> x.tack(63, what));
        DUE.sentence("FIRST: the first one (what = 0), the other one (1), nobody (2). OUTSIDE.");
        long gone = MastPulpits.GONE + OUTSIDE;
        beside("first(a, 5, 3, 0, 0)", 0, 10, gone, (x, a) -> x.first(a, 5, 3, 0, 0));
        beside("first(5, b, 3, 0, 0)", 0, 10, gone, (x, b) -> x.first(5, b, 3, 0, 0));
        beside("first(5, 5, n, 0, 0)", 0, 16, gone, (x, n) -> x.first(5, 5, n, 0, 0));
        beside("first(5, 5, 3, what, 0)", 0, 2, gone, (x, what) -> x.first(5, 5, 3, what, 0));
        beside("first(5, 5, 3, 0, part)", 0, 1, gone, (x, part) -> x.first(5, 5, 3, 0, part));
        beside("first of all at once", 0, 16, gone, (x, all) -> x.first(all, all, all, all, all));
    }

    // ---- promises 23 to 26

    private static void keptCalls() {
        DUE.sentence("A YEAR: the SHIP (what = 0), HULL (1), SILENCES (2). OUTSIDE.");
        beside("year(seed, 9, 0)", 0, 9999, OUTSIDE, (x, seed) -> x.year(seed, 9, 0));
        beside("year(5, m, 0)", 1, 99, OUTSIDE, (x, m) -> x.year(5, m, 0));
        beside("year(5, 9, what)", 0, 2, OUTSIDE, (x, what) -> x.year(5, 9, what));
        DUE.sentence("All but the PAD is kept in an IMAGE (0, 1): 1. OUTSIDE.");
        beside("image(k)", 0, 1, OUTSIDE, (x, k) -> x.image(k));
        DUE.sentence("It is as it was when it was kept: 1. OUTSIDE; STATE: it was not.");
        beside("restore(k)", 0, 1, OUTSIDE, (x, k) -> x.restore(k));
        refused("restore(1)", STATE, x -> x.restore(1));
        DUE.sentence("0 signs, 1 how many CELLS are LAND, 2 where the SHIP is, 3 its HULL, 4 who is UP (NONE), 5 "
            + "for how many hours (NONE), 6 FOG, 7 the hour, 8 SIGHTS; 10 and a WATCHER: EYES; 100 and a CELL: "
            + "LAND (1, 0). OUTSIDE.");
        beside("told(what)", 0, 163, OUTSIDE, (x, what) -> x.told(what));
        refused("told(9)", OUTSIDE, x -> x.told(9));
        refused("told(16)", OUTSIDE, x -> x.told(16));
        refused("told(99)", OUTSIDE, x -> x.told(99));
    }

    // ---- calls that ask

    private static void askingChangesNothing() {
        DUE.sentence("Nothing is DONE in fact.");
        MastPulpits x = busy("A^cw2f0.", 3);
        long[] before = Deck.all(x);
        for (int what = 0; what <= 1; what++) {
            x.judge(what);
            x.behind(what);
            x.seen(what);
            x.silence(what);
            x.course(0, 62, what);
            x.cross(0, 3, 6, 5, what);
            x.ropes(987654321, 9, 9, what);
            x.light(what);
            x.ask(what);
            x.tack(62, what);
            x.first(3, 7, 16, what, 0);
            x.year(77, 99, what);
        }
        DUE.same("all", Deck.all(x), before);
        DUE.is("the text is there: done()", x.done(), 5);
    }
}
