/** Promises 9 to 13, and what the terms tell of voyages: each sentence that names an edge has a test of its own. */
public final class EdgeVoyageTest {
    private static final Due DUE = new Due();

    public static void main(String[] args) {
        acts();
        glass();
        reasons();
        judge();
        behind();
        seen();
        silence();
        done();
        DUE.end();
    }

    private static void judged(MastPulpits x, String text, int act, int why, int strikes) {
        Deck.says(x, text);
        DUE.is(text + ": judge(0)", x.judge(0), act);
        DUE.is(text + ": judge(1)", x.judge(1), why);
        DUE.is(text + ": judge(2)", x.judge(2), strikes);
    }

    private static void canBe(MastPulpits x, String text) {
        judged(x, text, -6, -6, 0);
    }

    private static void canNotBe(MastPulpits x, String text, int act, int why) {
        judged(x, text, act, why, -3);
    }

    private static void behindIs(MastPulpits x, String text, int... due) {
        Deck.says(x, text);
        for (int what = 0; what < due.length; what++) {
            DUE.is(text + ": behind(" + what + ")", x.behind(what), due[what]);
        }
    }

    private static void seenIs(MastPulpits x, String text, int many, int far, int which) {
        Deck.says(x, text);
        DUE.is(text + ": seen(0)", x.seen(0), many);
        DUE.is(text + ": seen(1)", x.seen(1), far);
        DUE.is(text + ": seen(2)", x.seen(2), which);
    }

    // ---- what acts do

    private static void acts() {
        ways();
        goesUp();
        comesDown();
        strikes();
        fogIs();
        passesAnHour();
    }

    private static void ways() {
        DUE.sentence("WAYS 0 to 7: 0 a row less, 1 that and a column more, 2 a column more, 3 that and a row more, "
            + "4 a row more, 5 that and a column less, 6 a column less, 7 that and a row less.");
        for (int cell = 0; cell < 64; cell++) {
            MastPulpits x = new MastPulpits();
            x.ship(cell, 3);
            for (int way = 0; way < 8; way++) {
                int ahead = Deck.next(cell, way);
                Deck.says(x, "A^w" + way);
                DUE.is("from " + cell + ": judge(1) of w" + way, x.judge(1), ahead < 0 ? 4 : -6);
                DUE.is("from " + cell + ": behind(0) of w" + way, x.behind(0), ahead < 0 ? -3 : ahead);
            }
        }
    }

    private static void goesUp() {
        DUE.sentence("(he is UP then, for 0 hours; who was comes down)");
        MastPulpits x = new MastPulpits();
        behindIs(x, "A^", 27, 3, 0, 0, 0, 0);
        behindIs(x, "A^...", 27, 3, 0, 3, 0, 3);
        behindIs(x, "A^...F^", 27, 3, 5, 0, 0, 3);
        behindIs(x, "A^...F^A^", 27, 3, 0, 0, 0, 3);
        behindIs(x, "A^...A_A^", 27, 3, 0, 0, 0, 3);
        canNotBe(x, "A^F^A_", 2, 1);
    }

    private static void comesDown() {
        DUE.sentence("or _ (he comes down)");
        MastPulpits x = new MastPulpits();
        behindIs(x, "F^..F_", 27, 3, -6, -6, 0, 2);
        canNotBe(x, "F^F_c", 2, 2);
        canNotBe(x, "F^F_w2", 2, 2);
        canNotBe(x, "F^F_F_", 2, 1);
    }

    private static void strikes() {
        DUE.sentence("if LAND is there, it STRIKES: it stays, HULL is 1 less");
        MastPulpits x = Deck.withLand(28);
        x.ship(27, 9);
        behindIs(x, "A^w2", 27, 8, 0, 0, 0, 0);
        x.ship(27, 1);
        behindIs(x, "A^w2", 27, 0, 0, 0, 0, 0);
        behindIs(x, "A^w1", 20, 1, 0, 0, 0, 0);
        canNotBe(x, "A^w2w2", 2, 3);
        canNotBe(x, "A^w2w6", 2, 3);
        MastPulpits last = Deck.withLand(0, 63);
        last.ship(1, 2);
        behindIs(last, "A^w6w6", 1, 0, 0, 0, 0, 0);
        last.ship(62, 2);
        behindIs(last, "A^w2w2", 62, 0, 0, 0, 0, 0);
    }

    private static void fogIs() {
        DUE.sentence("f and a digit 0 to 7 (FOG is that)");
        MastPulpits x = new MastPulpits();
        x.fog(3);
        for (int v = 0; v <= 7; v++) {
            if (v != 3) {
                behindIs(x, "f" + v, 27, 3, -6, -6, v, 0);
            }
        }
    }

    private static void passesAnHour() {
        DUE.sentence("(an hour: who is UP is so for one hour more; FOG is 1 less, 0 at least)");
        MastPulpits x = new MastPulpits();
        behindIs(x, ".", 27, 3, -6, -6, 0, 1);
        behindIs(x, "f1.", 27, 3, -6, -6, 0, 1);
        behindIs(x, "f1..", 27, 3, -6, -6, 0, 2);
        behindIs(x, "f7.", 27, 3, -6, -6, 6, 1);
        behindIs(x, "f7.......", 27, 3, -6, -6, 0, 7);
        behindIs(x, "f7........", 27, 3, -6, -6, 0, 8);
        behindIs(x, "B^.", 27, 3, 1, 1, 0, 1);
        behindIs(x, ".B^", 27, 3, 1, 0, 0, 1);
    }

    // ---- the glass

    private static void glass() {
        farAndEyes();
        lessFog();
        halfOfThat();
        moreThanTwoHours();
        fogBeforeHalf();
    }

    /** One cell of land at a time, about ships in the corners and amid the sea. */
    private static void farAndEyes() {
        DUE.sentence("He SEES the LAND that is no more than that FAR from the SHIP. .. FAR from one CELL to "
            + "another one: rows, or columns between them, the more of both.");
        for (int ship : new int[] {0, 7, 27, 36, 56, 63}) {
            for (int eyes = 1; eyes <= 7; eyes++) {
                MastPulpits x = Deck.with("A^");
                x.ship(ship, 3);
                x.watcher(0, eyes);
                for (int cell = 0; cell < 64; cell++) {
                    if (cell != ship) {
                        landAlone(x, ship, cell, eyes);
                    }
                }
            }
        }
    }

    private static void landAlone(MastPulpits x, int ship, int cell, int eyes) {
        String call = "ship on " + ship + ", land on " + cell + ", eyes " + eyes;
        int far = Deck.far(ship, cell);
        x.land(cell, 1);
        DUE.is(call + ": seen(0)", x.seen(0), far <= eyes ? 1 : 0);
        DUE.is(call + ": seen(1)", x.seen(1), far <= eyes ? far : -6);
        DUE.is(call + ": seen(2)", x.seen(2), far <= eyes ? cell : -6);
        x.land(cell, 0);
    }

    /** Land on all cells about the ship: as many are seen as a square of that half breadth has. */
    private static MastPulpits amidLand(int eyes) {
        MastPulpits x = new MastPulpits();
        for (int cell = 0; cell < 64; cell++) {
            x.land(cell, 1);
        }
        x.watcher(0, eyes);
        return x;
    }

    private static void glassIs(MastPulpits x, String text, int glass) {
        int[] many = {0, 8, 24, 48, 63};
        Deck.says(x, text);
        DUE.is(text + ": seen(0)", x.seen(0), many[Math.min(glass, 4)]);
    }

    private static void lessFog() {
        DUE.sentence("his EYES less FOG (0 at least)");
        MastPulpits x = amidLand(4);
        glassIs(x, "A^", 4);
        glassIs(x, "A^f1", 3);
        glassIs(x, "A^f3", 1);
        glassIs(x, "A^f4", 0);
        glassIs(x, "A^f5", 0);
        glassIs(x, "A^f7", 0);
        seenIs(x, "A^f7", 0, -6, -6);
        x.watcher(0, 7);
        glassIs(x, "A^f6", 1);
        glassIs(x, "A^f7", 0);
        x.watcher(0, 1);
        glassIs(x, "A^", 1);
        glassIs(x, "A^f1", 0);
        glassIs(x, "A^f7", 0);
    }

    private static void halfOfThat() {
        DUE.sentence("half of that, cut");
        int[] half = {0, 0, 1, 1, 2, 2, 3, 3};
        for (int eyes = 1; eyes <= 7; eyes++) {
            glassIs(amidLand(eyes), "A^...", half[eyes]);
        }
    }

    private static void moreThanTwoHours() {
        DUE.sentence("if he is UP for more than 2 hours");
        MastPulpits x = amidLand(3);
        glassIs(x, "A^", 3);
        glassIs(x, "A^..", 3);
        glassIs(x, "A^...", 1);
        glassIs(x, "A^....", 1);
        glassIs(x, "...A^..", 3);
        glassIs(x, "B^..A^..", 3);
        glassIs(x, "A^...A_A^", 3);
        Deck.sails(x, "A^..");
        glassIs(x, "", 3);
        glassIs(x, ".", 1);
    }

    private static void fogBeforeHalf() {
        DUE.sentence("his EYES less FOG (0 at least); half of that, cut");
        MastPulpits x = amidLand(7);
        glassIs(x, "A^...f1", 3);
        glassIs(x, "A^...f2", 2);
        glassIs(x, "A^...f3", 2);
        glassIs(x, "A^...f5", 1);
        glassIs(x, "A^...f6", 0);
        glassIs(x, "A^...f7", 0);
        MastPulpits dim = amidLand(2);
        glassIs(dim, "A^...f1", 0);
        glassIs(dim, "A^...f7", 0);
    }

    // ---- why an act can not be

    private static void reasons() {
        upAlreadyOrNot();
        nobodyIsUp();
        noHull();
        noCell();
        fogAlready();
        lastHour();
        leastReason();
    }

    private static void upAlreadyOrNot() {
        DUE.sentence("1 he is UP already (^), is not (_)");
        for (char watcher = 'A'; watcher <= 'F'; watcher++) {
            char other = watcher == 'F' ? 'A' : (char) (watcher + 1);
            MastPulpits x = new MastPulpits();
            canBe(x, watcher + "^");
            canNotBe(x, watcher + "^" + watcher + "^", 1, 1);
            canNotBe(x, watcher + "_", 0, 1);
            canNotBe(x, watcher + "^" + other + "_", 1, 1);
            canBe(x, watcher + "^" + other + "^");
            canBe(x, watcher + "^" + watcher + "_");
        }
        canNotBe(Deck.sails(new MastPulpits(), "F^"), "F^", 0, 1);
        canBe(Deck.sails(new MastPulpits(), "F^"), "F_");
    }

    private static void nobodyIsUp() {
        DUE.sentence("2 nobody is UP (w, c)");
        MastPulpits x = new MastPulpits();
        canNotBe(x, "c", 0, 2);
        canNotBe(x, "w0", 0, 2);
        canBe(x, "f1");
        canBe(x, ".");
        canBe(x, "A^c");
        canBe(x, "A^w0");
    }

    private static void noHull() {
        DUE.sentence("3 HULL is 0 (w)");
        MastPulpits x = new MastPulpits();
        x.ship(27, 0);
        canNotBe(x, "A^w0", 1, 3);
        canBe(x, "A^cf1.A_");
        x.ship(27, 1);
        canBe(x, "A^w0");
    }

    private static void noCell() {
        DUE.sentence("4 there is no CELL that WAY (w)");
        MastPulpits x = new MastPulpits();
        canBe(x, "A^w0w0w0");
        canNotBe(x, "A^w0w0w0w0", 4, 4);
        canBe(x, "A^w2w2w2w2");
        canNotBe(x, "A^w2w2w2w2w2", 5, 4);
        canBe(x, "A^w4w4w4w4");
        canNotBe(x, "A^w4w4w4w4w4", 5, 4);
        canBe(x, "A^w6w6w6");
        canNotBe(x, "A^w6w6w6w6", 4, 4);
        canNotBe(x, "A^w7w7w7w7", 4, 4);
        canNotBe(x, "A^w3w3w3w3w3", 5, 4);
    }

    private static void fogAlready() {
        DUE.sentence("5 FOG is that already (f)");
        MastPulpits x = new MastPulpits();
        canNotBe(x, "f0", 0, 5);
        canNotBe(x, "f7f7", 1, 5);
        canBe(x, "f7f0");
        canBe(x, "f7.f7");
        canNotBe(x, "f7.f6", 2, 5);
        canNotBe(x, "f1.f0", 2, 5);
        x.fog(7);
        canNotBe(x, "f7", 0, 5);
        canBe(x, "f0");
    }

    private static void lastHour() {
        DUE.sentence("6 it is hour 99 (.)");
        MastPulpits x = Deck.waits(new MastPulpits(), 98);
        canBe(x, ".");
        canNotBe(x, "..", 1, 6);
        Deck.sails(x, "A^.");
        DUE.is("told(7)", x.told(7), 99);
        DUE.is("told(5)", x.told(5), 1);
        canNotBe(x, ".", 0, 6);
        canBe(x, "cw0f1A_");
        DUE.is("done() of none", Deck.says(x, "").done(), 0);
        MastPulpits up = Deck.waits(Deck.sails(new MastPulpits(), "A^"), 99);
        DUE.is("all hours up: told(5)", up.told(5), 99);
    }

    private static void leastReason() {
        DUE.sentence("An ACT can not be for the least of these reasons");
        MastPulpits x = new MastPulpits();
        x.ship(0, 0);
        canNotBe(x, "w0", 0, 2);
        canNotBe(x, "w3", 0, 2);
        canNotBe(x, "A^w0", 1, 3);
        canNotBe(x, "A^w3", 1, 3);
        x.ship(0, 1);
        canNotBe(x, "w0", 0, 2);
        canNotBe(x, "A^w0", 1, 4);
    }

    // ---- 9 judge

    private static void judge() {
        firstThatCanNot();
        howOften();
        judgeRefusals();
    }

    private static void firstThatCanNot() {
        DUE.sentence("JUDGED: the first ACT (from 0 on) that can not be, why");
        MastPulpits x = new MastPulpits();
        canBe(x, "");
        canNotBe(x, "c", 0, 2);
        canNotBe(x, "cf0", 0, 2);
        canNotBe(x, "A^f0c", 1, 5);
        canNotBe(x, "A^f0A^", 1, 5);
        canNotBe(x, "w0A^w0", 0, 2);
        canNotBe(x, ".".repeat(59) + "c", 59, 2);
        canNotBe(x, "A^A_".repeat(14) + "A^A^", 29, 1);
        canBe(x, "A^A_".repeat(15));
    }

    private static void howOften() {
        DUE.sentence("how often the SHIP STRUCK in the text");
        MastPulpits x = Deck.withLand(28);
        x.ship(27, 9);
        judged(x, "A^", -6, -6, 0);
        judged(x, "A^w0", -6, -6, 0);
        judged(x, "A^w2", -6, -6, 1);
        judged(x, "A^" + "w2".repeat(9), -6, -6, 9);
        judged(x, "A^" + "w2".repeat(10), 10, 3, -3);
        Deck.sails(x, "A^w2");
        judged(x, "", -6, -6, 0);
        judged(x, "w2", -6, -6, 1);
    }

    private static void judgeRefusals() {
        DUE.sentence("NONE. OUTSIDE; NO: there is a FAULT; STATE (2): some ACT can not be.");
        MastPulpits x = new MastPulpits();
        for (String text : new String[] {"", "c", "A", "cA", "!"}) {
            Deck.says(x, text);
            for (int what : Deck.beside(0, 2)) {
                DUE.is(text + ": judge(" + what + ")", x.judge(what), -2);
            }
        }
        judged(x, "A", -5, -5, -5);
        judged(x, "cA", -5, -5, -5);
        judged(x, "!", -5, -5, -5);
        judged(x, "c", 0, 2, -3);
        judged(x, "", -6, -6, 0);
    }

    // ---- 10 behind

    private static void behind() {
        behindNobody();
        behindNothing();
        likewise("BEHIND: .. the hour (5). OUTSIDE; NO, STATE, as of judge(2).", 5, MastPulpits::behind);
    }

    private static void behindNobody() {
        DUE.sentence("who is UP (NONE), for how many hours (NONE), FOG, the hour");
        MastPulpits x = new MastPulpits();
        behindIs(x, "..", 27, 3, -6, -6, 0, 2);
        behindIs(x, "A^..A_", 27, 3, -6, -6, 0, 2);
        behindIs(x, "A^", 27, 3, 0, 0, 0, 0);
        Deck.sails(x, "A^..");
        behindIs(x, "A_", 27, 3, -6, -6, 0, 2);
    }

    private static void behindNothing() {
        DUE.sentence("BEHIND: the SHIP (what = 0), HULL (1), who (2; NONE), hours (3; NONE), FOG (4), the hour (5).");
        MastPulpits x = new MastPulpits();
        behindIs(x, "", 27, 3, -6, -6, 0, 0);
        Deck.sails(x, "E^f7.w3");
        x.ship(63, 9);
        behindIs(x, "", 63, 9, 4, 1, 6, 1);
    }

    private interface Told {
        int by(MastPulpits x, int what);
    }

    /** The refusals that behind, seen and silence share, and their order. */
    private static void likewise(String words, int mostWhat, Told told) {
        DUE.sentence(words);
        MastPulpits x = new MastPulpits();
        String[] texts = {"", "A", "!", "cA", "c", "A^A^", "A^c."};
        int[] due = {0, -5, -5, -5, -3, -3, 0};
        for (int i = 0; i < texts.length; i++) {
            Deck.says(x, texts[i]);
            for (int what = 0; what <= mostWhat; what++) {
                int got = told.by(x, what);
                boolean refused = got == -2 || got == -3 || got == -5;
                DUE.is(texts[i] + ": what = " + what, refused ? got : 0, due[i]);
            }
            for (int what : Deck.beside(0, mostWhat)) {
                DUE.is(texts[i] + ": what = " + what, told.by(x, what), -2);
            }
        }
    }

    // ---- 11 seen

    private static void seen() {
        seenThen();
        nearestIsNone();
        nobodyUpSeesNothing();
        leastOfTheNearest();
        likewise("SEEN: how many (what = 0), how FAR (1), which (2); NONE. OUTSIDE; NO, STATE, likewise.", 2,
            MastPulpits::seen);
    }

    private static void seenThen() {
        DUE.sentence("SEEN, then, by who is UP");
        MastPulpits x = Deck.withLand(31);
        x.watcher(0, 1);
        x.watcher(1, 4);
        seenIs(x, "A^", 0, -6, -6);
        seenIs(x, "A^w2w2w2", 1, 1, 31);
        seenIs(x, "A^B^", 1, 4, 31);
        seenIs(x, "B^w6", 0, -6, -6);
        Deck.sails(x, "B^");
        seenIs(x, "", 1, 4, 31);
        seenIs(x, "A^", 0, -6, -6);
    }

    private static void nearestIsNone() {
        DUE.sentence("how many CELLS of LAND, how FAR the nearest is (NONE), which that is, the least (NONE)");
        MastPulpits x = new MastPulpits();
        seenIs(x, "A^", 0, -6, -6);
        x.land(63, 1);
        x.ship(58, 3);
        seenIs(x, "A^", 0, -6, -6);
        x.ship(59, 3);
        seenIs(x, "A^", 1, 4, 63);
        seenIs(x, "A^f1", 0, -6, -6);
    }

    private static void nobodyUpSeesNothing() {
        DUE.sentence("NONE all three: nobody is UP.");
        MastPulpits x = Deck.withLand(28);
        seenIs(x, "", -6, -6, -6);
        seenIs(x, "A^A_", -6, -6, -6);
        seenIs(x, "A^", 1, 1, 28);
        Deck.sails(x, "A^");
        seenIs(x, "A_", -6, -6, -6);
    }

    private static void leastOfTheNearest() {
        DUE.sentence("which that is, the least");
        MastPulpits x = Deck.withLand(0, 45, 43, 13, 9);
        seenIs(x, "A^", 5, 2, 9);
        x.land(9, 0);
        seenIs(x, "A^", 4, 2, 13);
        x.land(28, 1);
        seenIs(x, "A^", 5, 1, 28);
        x.land(18, 1);
        seenIs(x, "A^", 6, 1, 18);
    }

    // ---- 12 silence

    private static void silence() {
        firstSilence();
        noSilence();
        allCalls();
        likewise("SILENCE: the ACT (what = 0; NONE), calls (1). OUTSIDE; NO, STATE, likewise.", 1,
            MastPulpits::silence);
    }

    private static void silenceIs(MastPulpits x, String text, int act, int calls) {
        Deck.says(x, text);
        DUE.is(text + ": silence(0)", x.silence(0), act);
        DUE.is(text + ": silence(1)", x.silence(1), calls);
    }

    private static void firstSilence() {
        DUE.sentence("SILENCE: the first ACT that was one");
        MastPulpits x = new MastPulpits();
        silenceIs(x, "A^c", 1, 1);
        silenceIs(x, "A^cc", 1, 2);
        silenceIs(x, "...A^.c", 5, 1);
        silenceIs(x, "A^" + "c".repeat(58), 1, 58);
        Deck.sails(x, "A^c");
        silenceIs(x, "c", 0, 1);
        MastPulpits last = Deck.withLand(31);
        silenceIs(last, "A^" + "c".repeat(55) + "w6c", 57, 56);
    }

    private static void noSilence() {
        DUE.sentence("the first ACT that was one; NONE");
        MastPulpits x = Deck.withLand(31);
        silenceIs(x, "", -6, 0);
        silenceIs(x, "A^..", -6, 0);
        silenceIs(x, "A^c", -6, 1);
        silenceIs(x, "A^c..c", -6, 2);
        silenceIs(x, "A^c...c", 5, 2);
        Deck.sails(x, "A^f1c");
        silenceIs(x, "", -6, 0);
    }

    private static void allCalls() {
        DUE.sentence("how many calls there were, SILENCES too");
        MastPulpits x = Deck.withLand(31);
        silenceIs(x, "A^c", -6, 1);
        silenceIs(x, "A^f7c", 2, 1);
        silenceIs(x, "A^cf7ccf0c", 3, 4);
        silenceIs(x, "A^" + "c".repeat(58), -6, 58);
    }

    // ---- 13 done

    private static void done() {
        doneOfNothing();
        doneEmptiesThePad();
        doneRefused();
        doneIsSo();
    }

    private static void doneOfNothing() {
        DUE.sentence("VOYAGES are DONE (the PAD is empty then): ACTS.");
        MastPulpits x = Deck.sails(new MastPulpits(), "A^.w2");
        long[] before = Deck.all(x);
        DUE.is("done() of an empty pad", x.done(), 0);
        DUE.same("nothing changes", Deck.all(x), before);
        DUE.is("one act", Deck.says(x, "c").done(), 1);
        DUE.is("thirty acts", Deck.says(x, "B^B_".repeat(15)).done(), 30);
        DUE.is("sixty acts", Deck.says(x, ".".repeat(60)).done(), 60);
    }

    private static void doneEmptiesThePad() {
        DUE.sentence("(the PAD is empty then)");
        MastPulpits x = Deck.with("A^..");
        x.done();
        DUE.is("told(0)", x.told(0), 0);
        DUE.is("fault()", x.fault(), -6);
        DUE.is("wipe()", x.wipe(), 0);
        DUE.is("done() a second time", x.done(), 0);
        DUE.is("told(7)", x.told(7), 2);
        DUE.is("say('w')", x.say('w'), 1);
        DUE.is("fault() of w", x.fault(), 1);
    }

    private static void doneRefused() {
        DUE.sentence("ACTS. NO, STATE, likewise.");
        String[] texts = {"A", "!", "A^.A", "c", "A^.A^", "A^.cA"};
        int[] due = {-5, -5, -5, -3, -3, -5};
        for (int i = 0; i < texts.length; i++) {
            MastPulpits x = Deck.with(texts[i]);
            long[] before = Deck.all(x);
            DUE.is(texts[i] + ": done()", x.done(), due[i]);
            DUE.same(texts[i] + ": no act is done", Deck.all(x), before);
            DUE.is(texts[i] + ": the text stays", x.told(0), texts[i].length());
        }
    }

    private static void doneIsSo() {
        DUE.sentence("DONE: it is so then.");
        MastPulpits x = Deck.withLand(36);
        x.look(9, 1, true);
        Deck.says(x, "B^f5..w3w4c");
        DUE.is("done()", x.done(), 7);
        int[] due = {0, 1, 35, 2, 1, 2, 3, 2, 1};
        for (int what = 0; what < due.length; what++) {
            DUE.is("told(" + what + ")", x.told(what), due[what]);
        }
        DUE.is("the ship is there: land(35, 1)", x.land(35, 1), -3);
        DUE.is("what fits stays: light(-1)", x.light(-1), 9);
    }
}
