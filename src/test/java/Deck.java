/** What the tests do with an object over and over. */
final class Deck {
    static final int MAX = Integer.MAX_VALUE, MIN = Integer.MIN_VALUE;

    private Deck() {
    }

    static MastPulpits with(String text) {
        return says(new MastPulpits(), text);
    }

    /** The text stands on the pad then, and nothing else. */
    static MastPulpits says(MastPulpits x, String text) {
        x.wipe();
        for (int i = 0; i < text.length(); i++) {
            x.say(text.charAt(i));
        }
        return x;
    }

    /** The text is done in fact. */
    static MastPulpits sails(MastPulpits x, String text) {
        if (says(x, text).done() < 0) {
            throw new IllegalStateException("the test's own text can not be done: " + text);
        }
        return x;
    }

    /** So many hours pass, no matter that a pad has no room for them all. */
    static MastPulpits waits(MastPulpits x, int hours) {
        for (int left = hours; left > 0; left -= 60) {
            sails(x, ".".repeat(Math.min(left, 60)));
        }
        return x;
    }

    static MastPulpits withLand(int... cells) {
        MastPulpits x = new MastPulpits();
        for (int cell : cells) {
            x.land(cell, 1);
        }
        return x;
    }

    /** The numbers beside a range, and those at which an int wraps around. */
    static int[] beside(int least, int most) {
        return new int[] {least - 1, most + 1, MIN, MIN + 1, MAX - 1, MAX};
    }

    /** All that an object tells of its state, but for what its images keep. */
    static long[] all(MastPulpits x) {
        int fitting = x.light(-1);
        long[] told = new long[9 + 6 + 64 + 3 + fitting];
        int at = 0;
        for (int what = 0; what <= 163; what++) {
            if (what <= 8 || what >= 10 && what <= 15 || what >= 100) {
                told[at++] = x.told(what);
            }
        }
        told[at++] = x.fault();
        told[at++] = x.judge(0);
        told[at++] = fitting;
        for (int i = 0; i < fitting; i++) {
            told[at++] = x.light(i);
        }
        return told;
    }

    static int row(int cell) {
        return cell / 8;
    }

    static int column(int cell) {
        return cell % 8;
    }

    static int far(int cell, int other) {
        return Math.max(Math.abs(row(cell) - row(other)), Math.abs(column(cell) - column(other)));
    }

    /** The cell so many rows and columns on, or -1 if the sea ends before. */
    static int cellAt(int row, int column) {
        return row >= 0 && row < 8 && column >= 0 && column < 8 ? 8 * row + column : -1;
    }

    /** The next cell that way, by the document's list of ways, or -1. */
    static int next(int cell, int way) {
        int[] rows = {-1, -1, 0, 1, 1, 1, 0, -1};
        int[] columns = {0, 1, 1, 1, 0, -1, -1, -1};
        return cellAt(row(cell) + rows[way], column(cell) + columns[way]);
    }
}
