/** Runs of drawn calls, some 400 on each object, against the plain model: all promises together. */
public final class ModelTest {
    private static final Due DUE = new Due();
    private static final String[] ACTS = {"A^", "B^", "C^", "F^", "A_", "B_", "w0", "w1", "w2", "w3", "w4", "w5", "w6",
        "w7", "w2", "w4", "f0", "f1", "f3", "f6", "c", "c", "c", ".", ".", ".", ".", "....", "A", "w", "G", "c9"};
    private static long lot = 12345;

    public static void main(String[] args) {
        for (int run = 0; run < 500 && DUE.wrongSoFar() == 0; run++) {
            run(run);
        }
        DUE.end();
    }

    /** The next of a fixed row of numbers: the test is the same each time. */
    private static int draw(int below) {
        lot = lot * 6364136223846793005L + 1442695040888963407L;
        return (int) ((lot >>> 33) % below);
    }

    /** Mostly from least to most, now and then just beside or far off. */
    private static int near(int least, int most) {
        switch (draw(40)) {
            case 0:
                return least - 1;
            case 1:
                return most + 1;
            case 2:
                return draw(2) == 0 ? Integer.MAX_VALUE - draw(3) : Integer.MIN_VALUE + draw(3);
            default:
                return least + draw(most - least + 1);
        }
    }

    private static void run(int run) {
        MastPulpits x = new MastPulpits();
        Model model = new Model();
        for (int lands = draw(30); lands > 0; lands--) {
            int cell = draw(64);
            DUE.is("land", x.land(cell, 1), model.land(cell, 1));
        }
        for (int call = 0; call < 220 && DUE.wrongSoFar() == 0; call++) {
            String label = "run " + run + ", call " + call + ": ";
            int kind = draw(16);
            if (kind < 3) {
                write(label, x, model);
            } else if (kind < 7) {
                voyage(label, x, model);
            } else if (kind < 9) {
                sea(label, x, model);
            } else if (kind < 11) {
                waters(label, x, model);
            } else if (kind < 13) {
                sights(label, x, model);
            } else if (kind < 15) {
                chance(label, x, model);
            } else {
                kept(label, x, model);
            }
        }
    }

    /** Now and then a new text, or one act more; most texts that can not be go again, for longer ones. */
    private static void write(String label, MastPulpits x, Model model) {
        if (draw(6) == 0) {
            DUE.is(label + "wipe()", x.wipe(), model.wipe());
            return;
        }
        String act = ACTS[draw(ACTS.length - (draw(12) == 0 ? 0 : 4))];
        for (int i = 0; i < act.length(); i++) {
            char sign = act.charAt(i);
            DUE.is(label + "say(" + sign + ")", x.say(sign), model.say(sign));
        }
        if (model.told(0) == 60 || model.judge(2) < 0 && draw(3) > 0) {
            DUE.is(label + "judge(1)", x.judge(1), model.judge(1));
            DUE.is(label + "done()", x.done(), model.done());
            DUE.is(label + "wipe()", x.wipe(), model.wipe());
        }
    }

    private static void voyage(String label, MastPulpits x, Model model) {
        int what = near(0, 5);
        switch (draw(7)) {
            case 0:
                DUE.is(label + "fault()", x.fault(), model.fault());
                break;
            case 1:
                DUE.is(label + "judge(" + what % 3 + ")", x.judge(what % 3), model.judge(what % 3));
                break;
            case 2:
                DUE.is(label + "behind(" + what + ")", x.behind(what), model.behind(what));
                break;
            case 3:
            case 4:
                DUE.is(label + "seen(" + what % 4 + ")", x.seen(what % 4), model.seen(what % 4));
                break;
            case 5:
                DUE.is(label + "silence(" + what % 3 + ")", x.silence(what % 3), model.silence(what % 3));
                break;
            default:
                DUE.is(label + "done()", x.done(), model.done());
                break;
        }
    }

    private static void sea(String label, MastPulpits x, Model model) {
        int cell = near(0, 63);
        int other = near(0, 9);
        switch (draw(6)) {
            case 0:
                DUE.is(label + "land", x.land(cell, other % 3), model.land(cell, other % 3));
                break;
            case 1:
                DUE.is(label + "ship", x.ship(cell, other), model.ship(cell, other));
                break;
            case 2:
                DUE.is(label + "watcher", x.watcher(cell % 7, other), model.watcher(cell % 7, other));
                break;
            case 3:
                DUE.is(label + "fog", x.fog(other), model.fog(other));
                break;
            case 4:
                int sign = draw(2) == 0 ? near(-5, 32) : near(127, 200);
                DUE.is(label + "say(" + sign + ")", x.say(sign), model.say(sign));
                break;
            default:
                for (int what = 0; what < 10; what++) {
                    DUE.is(label + "told(" + what + ")", x.told(what), model.told(what));
                }
                int far = near(0, 170);
                DUE.is(label + "told(" + far + ")", x.told(far), model.told(far));
                break;
        }
    }

    private static void waters(String label, MastPulpits x, Model model) {
        int from = near(0, 63);
        int to = near(0, 63);
        int what = near(0, 1);
        if (draw(2) == 0) {
            DUE.is(label + "course " + from + " " + to + " " + what,
                x.course(from, to, what), model.course(from, to, what));
            return;
        }
        if (draw(2) == 0) {
            int d = near(0, 7);
            int e = near(0, 7);
            DUE.is(label + "cross " + from + " " + d + " " + to + " " + e + " " + what,
                x.cross(from, d, to, e, what), model.cross(from, d, to, e, what));
            return;
        }
        int n = near(1, 9);
        int row = 0;
        for (int i = 0; i < n && i < 9; i++) {
            row = 10 * row + (draw(60) == 0 ? 0 : 1 + draw(9));
        }
        int l = near(9, 30);
        DUE.is(label + "ropes " + row + " " + n + " " + l + " " + what,
            x.ropes(row, n, l, what), model.ropes(row, n, l, what));
    }

    private static void sights(String label, MastPulpits x, Model model) {
        int cell = near(0, 63);
        int e = near(0, 7);
        boolean sees = draw(2) == 0;
        int what = near(0, 1);
        int i = near(-1, model.light(-1));
        switch (draw(5)) {
            case 0:
            case 1:
                DUE.is(label + "look", x.look(cell, e, sees), model.look(cell, e, sees));
                break;
            case 2:
                DUE.is(label + "ask(" + what + ")", x.ask(what), model.ask(what));
                break;
            case 3:
                DUE.is(label + "light(-1)", x.light(-1), model.light(-1));
                DUE.is(label + "light(" + i + ")", x.light(i), model.light(i));
                break;
            default:
                if (draw(3) == 0) {
                    DUE.is(label + "forget()", x.forget(), model.forget());
                }
                break;
        }
    }

    private static void chance(String label, MastPulpits x, Model model) {
        int what = near(0, 2);
        int part = near(0, 1);
        int a = near(0, 10);
        int b = near(0, 10);
        int n = near(0, 16);
        int seed = near(0, 9999);
        int m = near(1, 99);
        int cell = near(0, 63);
        switch (draw(3)) {
            case 0:
                DUE.is(label + "first " + a + " " + b + " " + n + " " + what + " " + part,
                    x.first(a, b, n, what, part), model.first(a, b, n, what, part));
                break;
            case 1:
                DUE.is(label + "year " + seed + " " + m + " " + what, x.year(seed, m, what), model.year(seed, m, what));
                break;
            default:
                DUE.is(label + "tack " + cell + " " + part, x.tack(cell, part), model.tack(cell, part));
                break;
        }
    }

    private static void kept(String label, MastPulpits x, Model model) {
        int k = near(0, 1);
        if (draw(2) == 0) {
            DUE.is(label + "image(" + k + ")", x.image(k), model.image(k));
        } else {
            DUE.is(label + "restore(" + k + ")", x.restore(k), model.restore(k));
        }
    }
}
