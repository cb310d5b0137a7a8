/** Promises 1 to 8 and 26: the sea, the ship, watchers, signs and their fault, and what is told. */
public final class SeaTest {
    private static final Due DUE = new Due();

    public static void main(String[] args) {
        newObject();
        land();
        ship();
        watcher();
        fog();
        sayAndWipe();
        fault();
        told();
        DUE.end();
    }

    private static void newObject() {
        MastPulpits x = new MastPulpits();
        int[] due = {0, 0, 27, 3, -6, -6, 0, 0, 0};
        for (int what = 0; what < due.length; what++) {
            DUE.is("new: told(" + what + ")", x.told(what), due[what]);
        }
        for (int watcher = 0; watcher < 6; watcher++) {
            DUE.is("new: eyes of " + watcher, x.told(10 + watcher), 4);
        }
        for (int cell = 0; cell < 64; cell++) {
            DUE.is("new: land on " + cell, x.told(100 + cell), 0);
        }
        DUE.is("new: fault()", x.fault(), -6);
        DUE.is("new: light(-1)", x.light(-1), 64);
        DUE.is("new: restore(0)", x.restore(0), -3);
        DUE.is("new: restore(1)", x.restore(1), -3);
    }

    private static void land() {
        MastPulpits x = new MastPulpits();
        DUE.is("land(0, 1)", x.land(0, 1), 1);
        DUE.is("land(0, 1) again", x.land(0, 1), 1);
        DUE.is("land(63, 1)", x.land(63, 1), 2);
        DUE.is("land(31, 1)", x.land(31, 1), 3);
        DUE.is("land(32, 0) that is none", x.land(32, 0), 3);
        DUE.is("land(63, 0)", x.land(63, 0), 2);
        DUE.is("told(163)", x.told(163), 0);
        DUE.is("told(100)", x.told(100), 1);
        DUE.is("told(131)", x.told(131), 1);
        DUE.is("land where the ship is", x.land(27, 1), -3);
        DUE.is("no land where the ship is", x.land(27, 0), 2);
        DUE.is("land(64, 1)", x.land(64, 1), -1);
        DUE.is("land(-1, 1)", x.land(-1, 1), -1);
        DUE.is("land(64, 2)", x.land(64, 2), -1);
        DUE.is("land(27, 2)", x.land(27, 2), -2);
        DUE.is("land(1, -1)", x.land(1, -1), -2);
        DUE.is("land(max, 1)", x.land(Integer.MAX_VALUE, 1), -1);
        DUE.is("land(min, 1)", x.land(Integer.MIN_VALUE, 1), -1);
        DUE.is("told(1)", x.told(1), 2);
    }

    private static void ship() {
        MastPulpits x = new MastPulpits();
        x.land(5, 1);
        DUE.is("ship(0, 0)", x.ship(0, 0), 27);
        DUE.is("told(3)", x.told(3), 0);
        DUE.is("ship(0, 9), where it is", x.ship(0, 9), 0);
        DUE.is("told(3)", x.told(3), 9);
        DUE.is("ship on land", x.ship(5, 1), -3);
        DUE.is("ship on land, hull 10", x.ship(5, 10), -2);
        DUE.is("ship(64, 10)", x.ship(64, 10), -1);
        DUE.is("ship(-1, 1)", x.ship(-1, 1), -1);
        DUE.is("ship(1, -1)", x.ship(1, -1), -2);
        DUE.is("told(2)", x.told(2), 0);
        DUE.is("ship(63, 4)", x.ship(63, 4), 0);
        DUE.is("told(2)", x.told(2), 63);
        DUE.is("land where it was", x.land(0, 1), 2);
        DUE.is("land where it is", x.land(63, 1), -3);
    }

    private static void watcher() {
        MastPulpits x = new MastPulpits();
        DUE.is("watcher(5, 7)", x.watcher(5, 7), 4);
        DUE.is("watcher(5, 1)", x.watcher(5, 1), 7);
        DUE.is("watcher(5, 8)", x.watcher(5, 8), -2);
        DUE.is("watcher(5, 0)", x.watcher(5, 0), -2);
        DUE.is("watcher(6, 8)", x.watcher(6, 8), -1);
        DUE.is("watcher(-1, 1)", x.watcher(-1, 1), -1);
        DUE.is("told(15)", x.told(15), 1);
        DUE.is("told(14)", x.told(14), 4);
    }

    private static void fog() {
        MastPulpits x = new MastPulpits();
        DUE.is("fog(7)", x.fog(7), 0);
        DUE.is("fog(7)", x.fog(7), 7);
        DUE.is("fog(0)", x.fog(0), 7);
        DUE.is("fog(8)", x.fog(8), -2);
        DUE.is("fog(-1)", x.fog(-1), -2);
        DUE.is("told(6)", x.told(6), 0);
    }

    private static void sayAndWipe() {
        MastPulpits x = new MastPulpits();
        DUE.is("say(32)", x.say(32), -2);
        DUE.is("say(127)", x.say(127), -2);
        DUE.is("wipe() of none", x.wipe(), 0);
        for (int i = 1; i <= 60; i++) {
            DUE.is("say " + i, x.say(i % 2 == 0 ? 33 : 126), i);
        }
        DUE.is("say(33), full", x.say(33), -4);
        DUE.is("say(127), full", x.say(127), -2);
        DUE.is("told(0)", x.told(0), 60);
        DUE.is("wipe()", x.wipe(), 60);
        DUE.is("told(0)", x.told(0), 0);
        DUE.is("say after wipe", x.say(46), 1);
    }

    private static int faultOf(String text) {
        MastPulpits x = new MastPulpits();
        for (int i = 0; i < text.length(); i++) {
            x.say(text.charAt(i));
        }
        int fault = x.fault();
        DUE.is(text + ": a second time", x.fault(), fault);
        DUE.is(text + ": judge", x.judge(0) == -5 ? 1 : 0, fault == -6 ? 0 : 1);
        return fault;
    }

    private static void fault() {
        String[] whole = {"", "A^", "F_", "w0", "w7", "f0", "f7", "c", ".", "A^w3f2c.B_"};
        for (String text : whole) {
            DUE.is("fault of " + text, faultOf(text), -6);
        }
        String[] texts = {"A", "w", "f", "G^", "a^", "@", "^", "_", "0", "w8", "f8", "w/", "A-", "AA^", "cA", "c.w",
            "c.wf", "A^A", "A^^", "C", "W1", "!", "f", "Ac", "c0", "..8", "w1w2w"};
        int[] faults = {1, 1, 1, 0, 0, 0, 0, 0, 0, 1, 1, 1, 1, 1, 2, 3,
            3, 3, 2, 1, 0, 0, 1, 1, 1, 2, 5};
        for (int i = 0; i < texts.length; i++) {
            DUE.is("fault of " + texts[i], faultOf(texts[i]), faults[i]);
        }
        StringBuilder hours = new StringBuilder();
        for (int i = 0; i < 59; i++) {
            hours.append('.');
        }
        DUE.is("fault of 60 hours", faultOf(hours + "."), -6);
        DUE.is("fault of 59 hours and A", faultOf(hours + "A"), 60);
        MastPulpits x = new MastPulpits();
        x.say('A');
        DUE.is("a sign outside", x.say(31), -2);
        DUE.is("changes no fault", x.fault(), 1);
        x.say('^');
        DUE.is("a sign said does", x.fault(), -6);
    }

    private static void told() {
        MastPulpits x = new MastPulpits();
        int[] outside = {-1, 9, 16, 17, 99, 164, 200, -10, Integer.MAX_VALUE, Integer.MIN_VALUE};
        for (int what : outside) {
            DUE.is("told(" + what + ")", x.told(what), -2);
        }
        String text = "D^..f6.";
        for (int i = 0; i < text.length(); i++) {
            x.say(text.charAt(i));
        }
        DUE.is("told(0)", x.told(0), 7);
        DUE.is("told(4) before", x.told(4), -6);
        x.done();
        x.look(0, 0, false);
        int[] due = {0, 0, 27, 3, 3, 3, 5, 3, 1};
        for (int what = 0; what < due.length; what++) {
            DUE.is("after the voyage: told(" + what + ")", x.told(what), due[what]);
        }
    }
}
