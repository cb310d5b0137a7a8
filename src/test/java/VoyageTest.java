/** Promises 9 to 13: what is judged, where the ship is behind a text, what is seen, silences, what is done. */
public final class VoyageTest {
    private static final Due DUE = new Due();

    public static void main(String[] args) {
        reasons();
        leastReason();
        strikes();
        behind();
        glass();
        nearest();
        silence();
        refusals();
        done();
        lastHour();
        DUE.end();
    }

    private static void judged(MastPulpits x, String text, int act, int why, int strikes) {
        Deck.says(x, text);
        DUE.is(text + ": judge(0)", x.judge(0), act);
        DUE.is(text + ": judge(1)", x.judge(1), why);
        DUE.is(text + ": judge(2)", x.judge(2), strikes);
    }

    private static void reasons() {
        MastPulpits x = new MastPulpits();
        judged(x, "", -6, -6, 0);
        judged(x, "A^A^", 1, 1, -3);
        judged(x, "A^B^A^", -6, -6, 0);
        judged(x, "A_", 0, 1, -3);
        judged(x, "A^B_", 1, 1, -3);
        judged(x, "A^B^A_", 2, 1, -3);
        judged(x, "A^A_A_", 2, 1, -3);
        judged(x, "A^A_", -6, -6, 0);
        judged(x, "c", 0, 2, -3);
        judged(x, "A^A_c", 2, 2, -3);
        judged(x, "w3", 0, 2, -3);
        judged(x, "A^w0w0w0w0", 4, 4, -3);
        judged(x, "A^w2w2w2w2w2", 5, 4, -3);
        judged(x, "f0", 0, 5, -3);
        judged(x, "f3f3", 1, 5, -3);
        judged(x, "f3.f3", -6, -6, 0);
        judged(x, "f3.f2", 2, 5, -3);
        judged(x, "f1..f0", 3, 5, -3);
        judged(x, "...", -6, -6, 0);
        judged(x, "f0A", -5, -5, -5);
    }

    private static void leastReason() {
        MastPulpits x = new MastPulpits();
        x.ship(0, 0);
        judged(x, "w0", 0, 2, -3);
        judged(x, "A^w0", 1, 3, -3);
        judged(x, "A^w3", 1, 3, -3);
        x.ship(0, 1);
        judged(x, "A^w0", 1, 4, -3);
        judged(x, "A^w5", 1, 4, -3);
        judged(x, "A^w7", 1, 4, -3);
        judged(x, "A^w3", -6, -6, 0);
        x.ship(63, 1);
        judged(x, "A^w1", 1, 4, -3);
        judged(x, "A^w3", 1, 4, -3);
        judged(x, "A^w7", -6, -6, 0);
    }

    private static void strikes() {
        MastPulpits x = new MastPulpits();
        x.land(28, 1);
        judged(x, "A^w2w2w2", -6, -6, 3);
        DUE.is("stays", x.behind(0), 27);
        DUE.is("hull", x.behind(1), 0);
        judged(x, "A^w2w2w2w2", 4, 3, -3);
        judged(x, "A^w2w1w4w6w4", -6, -6, 2);
        DUE.is("where", x.behind(0), 27);
        DUE.is("hull", x.behind(1), 1);
    }

    private static void behind() {
        int[] cells = {19, 20, 28, 36, 35, 34, 26, 18};
        for (int way = 0; way < 8; way++) {
            DUE.is("way " + way, Deck.with("A^w" + way).behind(0), cells[way]);
        }
        told(Deck.with(""), 27, 3, -6, -6, 0, 0);
        told(Deck.with(".."), 27, 3, -6, -6, 0, 2);
        told(Deck.with("f2."), 27, 3, -6, -6, 1, 1);
        told(Deck.with("f2...."), 27, 3, -6, -6, 0, 4);
        told(Deck.with("E^"), 27, 3, 4, 0, 0, 0);
        told(Deck.with("E^..B^."), 27, 3, 1, 1, 0, 3);
        told(Deck.with("E^..E_."), 27, 3, -6, -6, 0, 3);
        told(Deck.with("E^..E_E^."), 27, 3, 4, 1, 0, 3);
        told(Deck.with("E^f7.w3w4"), 44, 3, 4, 1, 6, 1);
        MastPulpits x = Deck.with("E^..w2");
        x.behind(0);
        DUE.is("the ship itself stays", x.told(2), 27);
        DUE.is("nobody is up in fact", x.told(4), -6);
        DUE.is("no hour in fact", x.told(7), 0);
        DUE.is("the text stays", x.told(0), 6);
    }

    private static void told(MastPulpits x, int... due) {
        for (int what = 0; what < due.length; what++) {
            DUE.is("behind(" + what + ")", x.behind(what), due[what]);
        }
        DUE.is("behind(6)", x.behind(6), -2);
    }

    private static void seen(MastPulpits x, String text, int many, int far, int which) {
        Deck.says(x, text);
        DUE.is(text + ": seen(0)", x.seen(0), many);
        DUE.is(text + ": seen(1)", x.seen(1), far);
        DUE.is(text + ": seen(2)", x.seen(2), which);
    }

    private static void glass() {
        MastPulpits x = new MastPulpits();
        x.watcher(0, 7);
        x.watcher(1, 1);
        x.ship(0, 3);
        for (int column = 1; column < 8; column++) {
            x.land(column, 1);
        }
        seen(x, "", -6, -6, -6);
        seen(x, "A^", 7, 1, 1);
        seen(x, "B^", 1, 1, 1);
        seen(x, "C^", 4, 1, 1);
        seen(x, "A^f3", 4, 1, 1);
        seen(x, "A^f7", 0, -6, -6);
        seen(x, "B^f7", 0, -6, -6);
        seen(x, "A^..", 7, 1, 1);
        seen(x, "A^...", 3, 1, 1);
        seen(x, "A^...f2", 2, 1, 1);
        seen(x, "A^...f1", 3, 1, 1);
        seen(x, "B^...", 0, -6, -6);
        seen(x, "A^...B^A^", 7, 1, 1);
        seen(x, "A^...A_", -6, -6, -6);
        DUE.is("seen(3)", x.seen(3), -2);
        DUE.is("seen(-1)", x.seen(-1), -2);
    }

    private static void nearest() {
        MastPulpits x = new MastPulpits();
        x.land(9, 1);
        x.land(45, 1);
        x.land(59, 1);
        x.land(15, 1);
        seen(x, "A^", 4, 2, 9);
        seen(x, "A^w3", 4, 1, 45);
        seen(x, "A^w7", 2, 1, 9);
        seen(x, "A^w4w4", 4, 2, 45);
        seen(x, "A^w4w4w4", 2, 1, 59);
        x.land(9, 0);
        seen(x, "A^", 3, 2, 45);
        x.land(45, 0);
        seen(x, "A^", 2, 4, 15);
        x.watcher(0, 3);
        seen(x, "A^", 0, -6, -6);
    }

    private static void silence() {
        MastPulpits x = new MastPulpits();
        x.land(31, 1);
        Deck.says(x, "A^c");
        DUE.is("silence(0), land", x.silence(0), -6);
        DUE.is("silence(1), land", x.silence(1), 1);
        Deck.says(x, "A^cf1c.cf5cc");
        DUE.is("silence(0)", x.silence(0), 3);
        DUE.is("silence(1)", x.silence(1), 5);
        Deck.says(x, "...");
        DUE.is("silence(0), no call", x.silence(0), -6);
        DUE.is("silence(1), no call", x.silence(1), 0);
        Deck.says(x, "A^w6cc");
        DUE.is("silence(0)", x.silence(0), 2);
        DUE.is("silence(1)", x.silence(1), 2);
        DUE.is("silence(2)", x.silence(2), -2);
        DUE.is("silence(-1)", x.silence(-1), -2);
    }

    private static void refusals() {
        refused("A", -5);
        refused("cA", -5);
        refused("c", -3);
        refused("A^A^", -3);
    }

    private static void refused(String text, int due) {
        MastPulpits x = Deck.with(text);
        for (int what = 0; what < 6; what++) {
            DUE.is(text + ": behind(" + what + ")", x.behind(what), due);
        }
        for (int what = 0; what < 3; what++) {
            DUE.is(text + ": seen(" + what + ")", x.seen(what), due);
        }
        DUE.is(text + ": silence(0)", x.silence(0), due);
        DUE.is(text + ": silence(1)", x.silence(1), due);
        DUE.is(text + ": done()", x.done(), due);
        DUE.is(text + ": judge(2)", x.judge(2), due);
        DUE.is(text + ": judge(3)", x.judge(3), -2);
        DUE.is(text + ": judge(-1)", x.judge(-1), -2);
        DUE.is(text + ": behind(6)", x.behind(6), -2);
        DUE.is(text + ": behind(-1)", x.behind(-1), -2);
        DUE.is(text + ": seen(3)", x.seen(3), -2);
        DUE.is(text + ": silence(2)", x.silence(2), -2);
        DUE.is(text + ": the text stays", x.told(0), text.length());
    }

    private static void done() {
        MastPulpits x = new MastPulpits();
        x.land(28, 1);
        x.look(1, 1, true);
        Deck.says(x, "C^w2f4..w4");
        DUE.is("done()", x.done(), 6);
        DUE.is("the pad is empty", x.told(0), 0);
        int[] due = {0, 1, 35, 2, 2, 2, 2, 2, 1};
        for (int what = 0; what < due.length; what++) {
            DUE.is("done: told(" + what + ")", x.told(what), due[what]);
        }
        DUE.is("done() of nothing", x.done(), 0);
        DUE.is("the ship stays", x.told(2), 35);
        Deck.says(x, "C^");
        DUE.is("he is up already", x.judge(1), 1);
        Deck.says(x, "..C_.");
        DUE.is("done()", x.done(), 4);
        DUE.is("nobody is up", x.told(4), -6);
        DUE.is("for no hours", x.told(5), -6);
        DUE.is("hour", x.told(7), 5);
        Deck.says(x, "C^");
        DUE.is("done()", x.done(), 1);
        DUE.is("up for 0 hours", x.told(5), 0);
    }

    private static void lastHour() {
        MastPulpits x = new MastPulpits();
        for (int times = 0; times < 2; times++) {
            StringBuilder hours = new StringBuilder("A^");
            hours.setLength(times == 0 ? 2 : 0);
            int count = times == 0 ? 50 : 48;
            for (int i = 0; i < count; i++) {
                hours.append('.');
            }
            Deck.says(x, hours.toString());
            DUE.is("done()", x.done(), times == 0 ? 51 : 48);
        }
        DUE.is("hour", x.told(7), 98);
        judged(x, "..", 1, 6, -3);
        judged(x, ".", -6, -6, 0);
        DUE.is("done()", x.done(), 1);
        DUE.is("hour", x.told(7), 99);
        DUE.is("hours up", x.told(5), 99);
        judged(x, ".", 0, 6, -3);
        judged(x, "f1", -6, -6, 0);
    }
}
