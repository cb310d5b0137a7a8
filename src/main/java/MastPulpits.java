/** A sea of cells, a ship on it and whoever is up the mast; DOC.md tells what each call answers. */
public final class MastPulpits {
    public static final int UNKNOWN = -1, OUTSIDE = -2, STATE = -3, FULL = -4, NO = -5, NONE = -6;
    public static final long GONE = -1000000000000000000L;

    // The kinds of ACTS; a WATCHER, a WAY or a FOG goes with the first four.
    private static final int GO_UP = 0, COME_DOWN = 1, SAIL = 2, SET_FOG = 3, CALL = 4, HOUR = 5;

    // What a call looks at before it answers: nothing is refused.
    private static final int FINE = 0;

    private static final int SIGHTS_AT_MOST = 8, MOST_EYES = 7, MOST_FOG = 7, MOST_HULL = 9, LAST_HOUR = 99;

    private final Sea sea = new Sea();
    private final Pad pad = new Pad();
    private final Voyage voyage = new Voyage();
    private final RopeCutter cutter = new RopeCutter();
    private final Lookouts lookouts = new Lookouts();
    private final Sea[] images = {new Sea(), new Sea()};
    private final boolean[] kept = {false, false};

    public MastPulpits() {
    }

    // ---- 1 the sea, the ship, watchers

    public int land(int cell, int is) {
        if (!Chart.isCell(cell)) {
            return UNKNOWN;
        }
        if (!within(is, 0, 1)) {
            return OUTSIDE;
        }
        if (is == 1 && cell == sea.shipCell) {
            return STATE;
        }
        long one = Chart.only(cell);
        sea.lands = is == 1 ? sea.lands | one : sea.lands & ~one;
        return Long.bitCount(sea.lands);
    }

    public int ship(int cell, int hull) {
        if (!Chart.isCell(cell)) {
            return UNKNOWN;
        }
        if (!within(hull, 0, MOST_HULL)) {
            return OUTSIDE;
        }
        if (sea.isLand(cell)) {
            return STATE;
        }
        int was = sea.shipCell;
        sea.shipCell = cell;
        sea.shipHull = hull;
        return was;
    }

    public int watcher(int watcher, int eyes) {
        if (!sea.isWatcher(watcher)) {
            return UNKNOWN;
        }
        if (!within(eyes, 1, MOST_EYES)) {
            return OUTSIDE;
        }
        int were = sea.eyesOf(watcher);
        sea.giveEyes(watcher, eyes);
        return were;
    }

    public int fog(int v) {
        if (!within(v, 0, MOST_FOG)) {
            return OUTSIDE;
        }
        int was = sea.fogNow;
        sea.fogNow = v;
        return was;
    }

    public int say(int sign) {
        if (!within(sign, 33, 126)) {
            return OUTSIDE;
        }
        return pad.write(sign) ? pad.length : FULL;
    }

    public int wipe() {
        int were = pad.length;
        pad.length = 0;
        return were;
    }

    public int fault() {
        return pad.firstFault();
    }

    // ---- 2 voyages

    public int judge(int what) {
        int refusal = sailTheText(what, 2, what == 2);
        if (refusal != FINE) {
            return refusal;
        }
        switch (what) {
            case 0:
                return voyage.stoppedAt;
            case 1:
                return voyage.reason;
            default:
                return voyage.strikes;
        }
    }

    public int behind(int what) {
        int refusal = sailTheText(what, 5, true);
        return refusal != FINE ? refusal : shipAndWatch(voyage.seaThen, what);
    }

    public int seen(int what) {
        int refusal = sailTheText(what, 2, true);
        if (refusal != FINE) {
            return refusal;
        }
        Sea then = voyage.seaThen;
        if (then.up == NONE) {
            return NONE;
        }
        switch (what) {
            case 0:
                return Long.bitCount(then.sighted());
            case 1:
                return then.nearestFar();
            default:
                return then.nearestLand();
        }
    }

    public int silence(int what) {
        int refusal = sailTheText(what, 1, true);
        if (refusal != FINE) {
            return refusal;
        }
        return what == 0 ? voyage.firstSilence : voyage.calls;
    }

    public int done() {
        int refusal = sailTheText(0, 0, true);
        if (refusal != FINE) {
            return refusal;
        }
        sea.takeOver(voyage.seaThen);
        pad.length = 0;
        return voyage.acts;
    }

    // ---- 3 courses, bearings, ropes

    public int course(int from, int to, int what) {
        if (!Chart.isCell(from) || !Chart.isCell(to)) {
            return UNKNOWN;
        }
        if (!within(what, 0, 1)) {
            return OUTSIDE;
        }
        return fewestSteps(from, to, what);
    }

    public int cross(int a, int d, int b, int e, int what) {
        if (!Chart.isCell(a) || !Chart.isCell(b)) {
            return UNKNOWN;
        }
        if (!Chart.isWay(d) || !Chart.isWay(e) || !within(what, 0, 1)) {
            return OUTSIDE;
        }
        long both = Chart.ray(a, d) & Chart.ray(b, e);
        return what == 0 ? Long.bitCount(both) : Chart.least(both);
    }

    public int ropes(int row, int n, int l, int what) {
        if (!within(n, 1, RopeCutter.PIECES) || !cutter.takePieces(row, n)) {
            return OUTSIDE;
        }
        if (!within(l, 9, 30) || !within(what, 0, 1)) {
            return OUTSIDE;
        }
        return what == 0 ? cutter.fewestRopes(l) : cutter.mostFromOne(l);
    }

    // ---- 4 the light, tacks, who sees it first

    public int look(int cell, int e, boolean sees) {
        if (!Chart.isCell(cell)) {
            return UNKNOWN;
        }
        if (!within(e, 0, MOST_EYES)) {
            return OUTSIDE;
        }
        if (sea.sights >= SIGHTS_AT_MOST) {
            return FULL;
        }
        long near = Chart.around(cell, e);
        sea.fitting &= sees ? near : ~near;
        sea.sights++;
        return sea.sights;
    }

    public int forget() {
        int were = sea.sights;
        sea.sights = 0;
        sea.fitting = Chart.ALL;
        return were;
    }

    public int light(int i) {
        int many = Long.bitCount(sea.fitting);
        if (i == -1) {
            return many;
        }
        if (!within(i, 0, many - 1)) {
            return NONE;
        }
        long left = sea.fitting;
        for (int passed = 0; passed < i; passed++) {
            left &= left - 1;
        }
        return Chart.least(left);
    }

    public int ask(int what) {
        if (!within(what, 0, 1)) {
            return OUTSIDE;
        }
        return sea.fitting == 0 ? NONE : bestNextLook(sea.fitting, what);
    }

    public int tack(int cell, int what) {
        if (!Chart.isCell(cell)) {
            return UNKNOWN;
        }
        if (!within(what, 0, 1)) {
            return OUTSIDE;
        }
        int best = Chart.least(Chart.tacksFrom(cell) & Chart.cellsWhereTackingLoses());
        if (what == 1) {
            return best;
        }
        return best == NONE ? 0 : 1;
    }

    public long first(int a, int b, int n, int what, int part) {
        if (!within(a, 0, 10) || !within(b, 0, 10) || !within(n, 0, 16)) {
            return GONE + OUTSIDE;
        }
        if (!within(what, 0, 2) || !within(part, 0, 1)) {
            return GONE + OUTSIDE;
        }
        lookouts.watchByTurns(a, b, n);
        return lookouts.chance(what, part);
    }

    public int year(int seed, int m, int what) {
        if (!within(seed, 0, 9999) || !within(m, 1, 99) || !within(what, 0, 2)) {
            return OUTSIDE;
        }
        voyage.sailByDraws(sea, seed, m);
        switch (what) {
            case 0:
                return voyage.seaThen.shipCell;
            case 1:
                return voyage.seaThen.shipHull;
            default:
                return voyage.silences;
        }
    }

    public int image(int k) {
        if (!isImage(k)) {
            return OUTSIDE;
        }
        images[k].takeOver(sea);
        kept[k] = true;
        return 1;
    }

    public int restore(int k) {
        if (!isImage(k)) {
            return OUTSIDE;
        }
        if (!kept[k]) {
            return STATE;
        }
        sea.takeOver(images[k]);
        return 1;
    }

    public int told(int what) {
        if (within(what, 2, 7)) {
            return shipAndWatch(sea, what - 2);
        }
        if (sea.isWatcher(what - 10)) {
            return sea.eyesOf(what - 10);
        }
        if (Chart.isCell(what - 100)) {
            return sea.isLand(what - 100) ? 1 : 0;
        }
        switch (what) {
            case 0:
                return pad.length;
            case 1:
                return Long.bitCount(sea.lands);
            case 8:
                return sea.sights;
            default:
                return OUTSIDE;
        }
    }

    // ---- what several calls share

    private static boolean within(int number, int least, int most) {
        return number >= least && number <= most;
    }

    private boolean isImage(int k) {
        return k >= 0 && k < images.length && k < kept.length && images[k] != null;
    }

    /** Sails the text on a copy of the sea; the answer is the refusal that fits first, or FINE. */
    private int sailTheText(int what, int mostWhat, boolean toTheEnd) {
        if (!within(what, 0, mostWhat)) {
            return OUTSIDE;
        }
        if (pad.firstFault() != NONE) {
            return NO;
        }
        voyage.sailByText(sea, pad);
        return toTheEnd && voyage.stoppedAt != NONE ? STATE : FINE;
    }

    /** The six numbers that behind() and, two further on, told() tell in the same order. */
    private static int shipAndWatch(Sea one, int what) {
        switch (what) {
            case 0:
                return one.shipCell;
            case 1:
                return one.shipHull;
            case 2:
                return one.up;
            case 3:
                return one.up == NONE ? NONE : one.hoursUp;
            case 4:
                return one.fogNow;
            default:
                return one.hourNow;
        }
    }

    /** Goes from the end backwards, so that the cells one step nearer to it are known at the beginning. */
    private int fewestSteps(int from, int to, int what) {
        if (sea.isLand(from) || sea.isLand(to)) {
            return NONE;
        }
        if (from == to) {
            return what == 0 ? 0 : NONE;
        }
        long reached = Chart.only(to);
        for (int steps = 1; steps < Chart.CELLS; steps++) {
            long wider = Chart.spread(reached) & ~sea.lands;
            if (Chart.holds(wider, from)) {
                return what == 0 ? steps : Chart.leastWayInto(from, reached);
            }
            reached = wider;
        }
        return NONE;
    }

    private static int bestNextLook(long fitting, int what) {
        int all = Long.bitCount(fitting);
        int fewest = all + 1;
        int best = NONE;
        for (int cell = 0; cell < Chart.CELLS; cell++) {
            for (int e = 0; e <= MOST_EYES; e++) {
                int ifSeen = Long.bitCount(fitting & Chart.around(cell, e));
                int atMost = Math.max(ifSeen, all - ifSeen);
                if (atMost < fewest) {
                    fewest = atMost;
                    best = 10 * cell + e;
                }
            }
        }
        return what == 0 ? best : fewest;
    }

    /** Where cells lie to one another. A set of cells is a long: bit c of it is CELL c. */
    private static final class Chart {
        static final int CELLS = 64, SIDE = 8, WAYS = 8;
        static final long ALL = -1L;
        private static final long FIRST_COLUMN = 0x0101010101010101L;
        private static final int[] ROWS_OF_WAY = {-1, -1, 0, 1, 1, 1, 0, -1};
        private static final int[] COLUMNS_OF_WAY = {0, 1, 1, 1, 0, -1, -1, -1};

        static boolean isCell(int cell) {
            return cell >= 0 && cell < CELLS;
        }

        static boolean isWay(int way) {
            return way >= 0 && way < WAYS;
        }

        static long only(int cell) {
            return cell >= 0 && cell < CELLS ? 1L << cell : 0L;
        }

        static boolean holds(long set, int cell) {
            return cell >= 0 && cell < CELLS && ((set >>> cell) & 1L) != 0;
        }

        /** As many cells as stand before the least one, so many is its number. */
        static int least(long set) {
            return set == 0 ? NONE : Long.bitCount((set & -set) - 1);
        }

        private static int moved(int cell, int rows, int columns) {
            int row = cell / SIDE + rows;
            int column = cell % SIDE + columns;
            boolean inside = row >= 0 && row < SIDE && column >= 0 && column < SIDE;
            return inside ? SIDE * row + column : NONE;
        }

        /** The next cell that way, or NONE. */
        static int next(int cell, int way) {
            if (!isCell(cell) || way < 0 || way >= ROWS_OF_WAY.length || way >= COLUMNS_OF_WAY.length) {
                return NONE;
            }
            return moved(cell, ROWS_OF_WAY[way], COLUMNS_OF_WAY[way]);
        }

        /** All cells that way, without the one that it begins on. */
        static long ray(int cell, int way) {
            long set = 0;
            int on = next(cell, way);
            for (int steps = 1; steps < SIDE && on != NONE; steps++) {
                set |= only(on);
                on = next(on, way);
            }
            return set;
        }

        /** The cells no more than so far from a cell, itself too. */
        static long around(int cell, int far) {
            int row = cell / SIDE;
            int column = cell % SIDE;
            int firstRow = Math.max(0, row - far);
            int lastRow = Math.min(SIDE - 1, row + far);
            int firstColumn = Math.max(0, column - far);
            int lastColumn = Math.min(SIDE - 1, column + far);
            long rows = (ALL << (SIDE * firstRow)) & (ALL >>> (SIDE * (SIDE - 1 - lastRow)));
            long columnsOfRow = (0xFFL << firstColumn) & (0xFFL >>> (SIDE - 1 - lastColumn));
            return rows & (columnsOfRow * FIRST_COLUMN);
        }

        /** A set with all cells that are a step from it. */
        static long spread(long set) {
            long left = (set & ~FIRST_COLUMN) >>> 1;
            long right = (set << 1) & ~FIRST_COLUMN;
            long wide = set | left | right;
            return wide | (wide << SIDE) | (wide >>> SIDE);
        }

        static int leastWayInto(int cell, long set) {
            for (int way = 0; way < WAYS; way++) {
                if (holds(set, next(cell, way))) {
                    return way;
                }
            }
            return NONE;
        }

        static long tacksFrom(int cell) {
            return only(moved(cell, -2, 1)) | only(moved(cell, -2, -1))
                | only(moved(cell, 1, -2)) | only(moved(cell, -1, -2));
        }

        /** Every tack lessens row and column together, so the cells are told by that sum, rising. */
        static long cellsWhereTackingLoses() {
            long losing = 0;
            for (int sum = 0; sum <= 2 * (SIDE - 1); sum++) {
                for (int row = Math.max(0, sum - SIDE + 1); row <= Math.min(sum, SIDE - 1); row++) {
                    int cell = SIDE * row + sum - row;
                    if ((tacksFrom(cell) & losing) == 0) {
                        losing |= only(cell);
                    }
                }
            }
            return losing;
        }
    }

    /** All that an IMAGE keeps. */
    private static final class Sea {
        long lands = 0;
        int shipCell = 27;
        int shipHull = 3;
        int up = NONE;
        int hoursUp = 0;
        int fogNow = 0;
        int hourNow = 0;
        int sights = 0;
        // Nothing but how many SIGHTS there are and which cells fit them all is ever told of them.
        long fitting = Chart.ALL;
        private final int[] eyes = {4, 4, 4, 4, 4, 4};

        void takeOver(Sea other) {
            lands = other.lands;
            shipCell = other.shipCell;
            shipHull = other.shipHull;
            up = other.up;
            hoursUp = other.hoursUp;
            fogNow = other.fogNow;
            hourNow = other.hourNow;
            sights = other.sights;
            fitting = other.fitting;
            for (int watcher = 0; watcher < eyes.length && watcher < other.eyes.length; watcher++) {
                eyes[watcher] = other.eyes[watcher];
            }
        }

        boolean isLand(int cell) {
            return Chart.holds(lands, cell);
        }

        boolean isWatcher(int watcher) {
            return watcher >= 0 && watcher < eyes.length;
        }

        int eyesOf(int watcher) {
            return watcher >= 0 && watcher < eyes.length ? eyes[watcher] : 0;
        }

        void giveEyes(int watcher, int sharp) {
            if (watcher >= 0 && watcher < eyes.length) {
                eyes[watcher] = sharp;
            }
        }

        int glass() {
            int sharp = up >= 0 && up < eyes.length ? eyes[up] : 0;
            int clear = Math.max(0, sharp - fogNow);
            return hoursUp > 2 ? clear / 2 : clear;
        }

        /** The land that who is up sees; none if nobody is. */
        long sighted() {
            return up == NONE ? 0L : lands & Chart.around(shipCell, glass());
        }

        int nearestFar() {
            long all = sighted();
            for (int far = 1; far < Chart.SIDE; far++) {
                if ((all & Chart.around(shipCell, far)) != 0) {
                    return far;
                }
            }
            return NONE;
        }

        int nearestLand() {
            int far = nearestFar();
            return far == NONE ? NONE : Chart.least(sighted() & Chart.around(shipCell, far));
        }

        /** The least reason why an act can not be, or NONE; ahead is the cell that a ship would go to. */
        int reasonAgainst(int act, int with, int ahead) {
            switch (act) {
                case GO_UP:
                    return up == with ? 1 : NONE;
                case COME_DOWN:
                    return up == with ? NONE : 1;
                case SAIL:
                    return reasonAgainstSailing(ahead);
                case SET_FOG:
                    return fogNow == with ? 5 : NONE;
                case CALL:
                    return up == NONE ? 2 : NONE;
                default:
                    return hourNow >= LAST_HOUR ? 6 : NONE;
            }
        }

        private int reasonAgainstSailing(int ahead) {
            if (up == NONE) {
                return 2;
            }
            if (shipHull <= 0) {
                return 3;
            }
            return ahead == NONE ? 4 : NONE;
        }

        /** Does an act against which there is no reason. */
        void perform(int act, int with, int ahead) {
            switch (act) {
                case GO_UP:
                    up = with;
                    hoursUp = 0;
                    break;
                case COME_DOWN:
                    up = NONE;
                    hoursUp = 0;
                    break;
                case SAIL:
                    goOrStrike(ahead);
                    break;
                case SET_FOG:
                    fogNow = with;
                    break;
                case HOUR:
                    passAnHour();
                    break;
                default:
                    break;
            }
        }

        private void goOrStrike(int ahead) {
            if (Chart.holds(lands, ahead)) {
                shipHull--;
            } else {
                shipCell = ahead;
            }
        }

        private void passAnHour() {
            hourNow++;
            fogNow = Math.max(0, fogNow - 1);
            if (up != NONE) {
                hoursUp++;
            }
        }
    }

    /** The signs that are said, and where acts begin among them. */
    private static final class Pad {
        private final int[] signs = new int[60];
        int length = 0;

        boolean write(int sign) {
            if (length < 0 || length >= signs.length) {
                return false;
            }
            signs[length] = sign;
            length++;
            return true;
        }

        private int signAt(int place) {
            return place >= 0 && place < length && place < signs.length ? signs[place] : NONE;
        }

        private static boolean isLetter(int sign) {
            return sign >= 'A' && sign <= 'F';
        }

        private static boolean isDigit(int sign) {
            return sign >= '0' && sign <= '7';
        }

        /** The kind of the act that begins there, or NONE if no whole one does. */
        int actAt(int place) {
            int sign = signAt(place);
            int second = signAt(place + 1);
            if (sign == 'c') {
                return CALL;
            }
            if (sign == '.') {
                return HOUR;
            }
            if (isLetter(sign) && second == '^') {
                return GO_UP;
            }
            if (isLetter(sign) && second == '_') {
                return COME_DOWN;
            }
            if (sign == 'w' && isDigit(second)) {
                return SAIL;
            }
            return sign == 'f' && isDigit(second) ? SET_FOG : NONE;
        }

        /** The watcher, the way or the fog of the act that begins there. */
        int withAt(int place) {
            int sign = signAt(place);
            return isLetter(sign) ? sign - 'A' : signAt(place + 1) - '0';
        }

        static int signsOf(int act) {
            return act == CALL || act == HOUR ? 1 : 2;
        }

        int firstFault() {
            int place = 0;
            for (int acts = 0; acts < length && place < length; acts++) {
                int act = actAt(place);
                if (act == NONE) {
                    return needsASecond(signAt(place)) ? place + 1 : place;
                }
                place += signsOf(act);
            }
            return NONE;
        }

        private static boolean needsASecond(int sign) {
            return isLetter(sign) || sign == 'w' || sign == 'f';
        }
    }

    /** A voyage on a copy of the sea, and what is told of it. */
    private static final class Voyage {
        final Sea seaThen = new Sea();
        int acts;
        int stoppedAt;
        int reason;
        int strikes;
        int calls;
        int silences;
        int firstSilence;

        private void setOut(Sea from) {
            seaThen.takeOver(from);
            acts = 0;
            stoppedAt = NONE;
            reason = NONE;
            strikes = 0;
            calls = 0;
            silences = 0;
            firstSilence = NONE;
        }

        /** Goes on to the first act that can not be; the text must have no fault. */
        void sailByText(Sea from, Pad pad) {
            setOut(from);
            int place = 0;
            for (int tries = 0; tries < pad.length && place < pad.length; tries++) {
                int act = pad.actAt(place);
                reason = tryAct(act, pad.withAt(place));
                if (reason != NONE) {
                    stoppedAt = acts;
                    return;
                }
                place += Pad.signsOf(act);
            }
        }

        /** Draws acts; one that can not be is passed over and counts among the m all the same. */
        void sailByDraws(Sea from, int seed, int m) {
            setOut(from);
            int x = seed;
            for (int drawn = 0; drawn < m; drawn++) {
                x = (75 * x + 74) % 65537;
                int act = drawnAct(x % 8);
                int y = x / 8;
                tryAct(act, act == GO_UP ? y % 6 : y % 8);
            }
        }

        private static int drawnAct(int lot) {
            switch (lot) {
                case 0:
                    return GO_UP;
                case 5:
                    return SET_FOG;
                case 6:
                    return CALL;
                case 7:
                    return HOUR;
                default:
                    return SAIL;
            }
        }

        /** Does an act if it can be; the answer is the reason why it can not, or NONE. */
        private int tryAct(int act, int with) {
            int ahead = act == SAIL ? Chart.next(seaThen.shipCell, with) : NONE;
            int against = seaThen.reasonAgainst(act, with, ahead);
            if (against != NONE) {
                return against;
            }
            if (act == CALL) {
                countCall(seaThen.sighted());
            }
            if (act == SAIL && seaThen.isLand(ahead)) {
                strikes++;
            }
            seaThen.perform(act, with, ahead);
            acts++;
            return NONE;
        }

        private void countCall(long sighted) {
            calls++;
            if (sighted != 0) {
                return;
            }
            silences++;
            if (firstSilence == NONE) {
                firstSilence = acts;
            }
        }
    }

    /** Cuts pieces from ropes; its rows are made once, for all calls. */
    private static final class RopeCutter {
        static final int PIECES = 9;
        // More than any rope is long, so that a count of ropes and a length fit in one number.
        private static final int ROPE = 64;
        private final int[] pieces = new int[PIECES];
        private final int[] cutOfSet = new int[1 << PIECES];
        private int many = 0;

        /** Whether the row has just n digits, none of them 0; they are the pieces then. */
        boolean takePieces(int row, int n) {
            int rest = row;
            many = 0;
            for (int i = 0; i < n && i < pieces.length; i++) {
                if (rest <= 0 || rest % 10 == 0) {
                    return false;
                }
                pieces[i] = rest % 10;
                rest /= 10;
                many++;
            }
            return rest == 0;
        }

        /**
         * For each set of pieces: the fewest full ropes before the last one, and the least cut from that.
         * Of the set of no pieces nothing is cut, so its place stays as it was made, 0.
         */
        int fewestRopes(int l) {
            for (int set = 1; set < (1 << many) && set < cutOfSet.length; set++) {
                cutOfSet[set] = leastCut(set, l);
            }
            int all = (1 << many) - 1;
            return all < 0 || all >= cutOfSet.length ? NONE : cutOfSet[all] / ROPE + 1;
        }

        private int leastCut(int set, int l) {
            int least = PIECES * ROPE;
            for (int i = 0; i < many && i < pieces.length; i++) {
                int others = set & ~(1 << i);
                if (others != set && others >= 0 && others < cutOfSet.length) {
                    least = Math.min(least, cutFurther(cutOfSet[others], pieces[i], l));
                }
            }
            return least;
        }

        private static int cutFurther(int cut, int piece, int l) {
            return cut % ROPE + piece <= l ? cut + piece : (cut / ROPE + 1) * ROPE + piece;
        }

        /** The shortest pieces first: no other choice brings more of them. */
        int mostFromOne(int l) {
            int left = l;
            int most = 0;
            for (int length = 1; length <= 9; length++) {
                for (int i = 0; i < many && i < pieces.length; i++) {
                    if (pieces[i] == length && length <= left) {
                        left -= length;
                        most++;
                    }
                }
            }
            return most;
        }
    }

    /** Two who look by turns. All chances are so many of 10 to the number of looks: 10 to 16 at most. */
    private static final class Lookouts {
        private long byFirst;
        private long byOther;
        private long byNobody;
        private long outOf;

        void watchByTurns(int a, int b, int n) {
            byFirst = 0;
            byOther = 0;
            byNobody = 1;
            outOf = 1;
            for (int look = 0; look < n; look++) {
                boolean firstLooks = look % 2 == 0;
                int tenths = firstLooks ? a : b;
                byFirst = byFirst * 10 + (firstLooks ? byNobody * tenths : 0);
                byOther = byOther * 10 + (firstLooks ? 0 : byNobody * tenths);
                byNobody *= 10 - tenths;
                outOf *= 10;
            }
        }

        long chance(int what, int part) {
            if (what == 0) {
                return partOf(byFirst, part);
            }
            return partOf(what == 1 ? byOther : byNobody, part);
        }

        /** A power of ten has no primes but 2 and 5 to share, each no more than 16 times. */
        private long partOf(long upper, int part) {
            long over = upper;
            long under = outOf;
            for (int i = 0; i < 16; i++) {
                if (over % 2 == 0 && under % 2 == 0) {
                    over /= 2;
                    under /= 2;
                }
                if (over % 5 == 0 && under % 5 == 0) {
                    over /= 5;
                    under /= 5;
                }
            }
            return part == 0 ? over : under;
        }
    }
}
