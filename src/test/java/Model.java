import java.math.BigInteger;
import java.util.ArrayList;
import java.util.Arrays;
import java.util.List;

/** The document over again, as slowly and plainly as can be: lists, grids, and every case tried. */
final class Model {
    private boolean[] land = new boolean[64];
    private int[] eyes = {4, 4, 4, 4, 4, 4};
    private List<int[]> sights = new ArrayList<>();
    private Model[] images = new Model[2];
    private String pad = "";
    private int ship = 27;
    private int hull = 3;
    private int up = -6;
    private int hours = 0;
    private int fog = 0;
    private int hour = 0;

    private static boolean in(int x, int a, int b) {
        return a <= x && x <= b;
    }

    private static int far(int a, int b) {
        return Math.max(Math.abs(a / 8 - b / 8), Math.abs(a % 8 - b % 8));
    }

    private Model copy() {
        Model other = new Model();
        other.land = land.clone();
        other.eyes = eyes.clone();
        other.sights = new ArrayList<>(sights);
        other.ship = ship;
        other.hull = hull;
        other.up = up;
        other.hours = hours;
        other.fog = fog;
        other.hour = hour;
        return other;
    }

    private void become(Model other) {
        Model fresh = other.copy();
        land = fresh.land;
        eyes = fresh.eyes;
        sights = fresh.sights;
        ship = fresh.ship;
        hull = fresh.hull;
        up = fresh.up;
        hours = fresh.hours;
        fog = fresh.fog;
        hour = fresh.hour;
    }

    private int lands() {
        int many = 0;
        for (boolean is : land) {
            many += is ? 1 : 0;
        }
        return many;
    }

    int land(int cell, int is) {
        if (!in(cell, 0, 63)) return -1;
        if (!in(is, 0, 1)) return -2;
        if (is == 1 && cell == ship) return -3;
        land[cell] = is == 1;
        return lands();
    }

    int ship(int cell, int newHull) {
        if (!in(cell, 0, 63)) return -1;
        if (!in(newHull, 0, 9)) return -2;
        if (land[cell]) return -3;
        int was = ship;
        ship = cell;
        hull = newHull;
        return was;
    }

    int watcher(int watcher, int sharp) {
        if (!in(watcher, 0, 5)) return -1;
        if (!in(sharp, 1, 7)) return -2;
        int was = eyes[watcher];
        eyes[watcher] = sharp;
        return was;
    }

    int fog(int v) {
        if (!in(v, 0, 7)) return -2;
        int was = fog;
        fog = v;
        return was;
    }

    int say(int sign) {
        if (!in(sign, 33, 126)) return -2;
        if (pad.length() == 60) return -4;
        pad += (char) sign;
        return pad.length();
    }

    int wipe() {
        int was = pad.length();
        pad = "";
        return was;
    }

    int fault() {
        if (pad.matches("([A-F][\\^_]|[wf][0-7]|[c.])*")) return -6;
        for (int place = 0; place < pad.length(); place++) {
            if (!pad.substring(0, place + 1).matches("([A-F][\\^_]|[wf][0-7]|[c.])*[A-Fwf]?")) return place;
        }
        return pad.length();
    }

    private List<Integer> sighted() {
        List<Integer> cells = new ArrayList<>();
        int glass = Math.max(eyes[up] - fog, 0);
        if (hours > 2) glass = glass / 2;
        for (int cell = 0; cell < 64; cell++) {
            if (land[cell] && far(cell, ship) <= glass) cells.add(cell);
        }
        return cells;
    }

    private static int cellThatWay(int cell, char way) {
        int row = cell / 8;
        int column = cell % 8;
        if ("017".indexOf(way) >= 0) row--;
        if ("345".indexOf(way) >= 0) row++;
        if ("123".indexOf(way) >= 0) column++;
        if ("567".indexOf(way) >= 0) column--;
        return in(row, 0, 7) && in(column, 0, 7) ? row * 8 + column : -1;
    }

    /** 0, or the least reason why it can not be; log: strikes, calls, silences, first silence, acts. */
    private int act(String act, int[] log) {
        char sign = act.charAt(0);
        char second = act.length() > 1 ? act.charAt(1) : ' ';
        if (second == '^' && up == sign - 'A') return 1;
        if (second == '_' && up != sign - 'A') return 1;
        if ((sign == 'w' || sign == 'c') && up == -6) return 2;
        if (sign == 'w' && hull == 0) return 3;
        if (sign == 'w' && cellThatWay(ship, second) == -1) return 4;
        if (sign == 'f' && fog == second - '0') return 5;
        if (sign == '.' && hour == 99) return 6;
        if (second == '^') {
            up = sign - 'A';
            hours = 0;
        } else if (second == '_') {
            up = -6;
        } else if (sign == 'w') {
            int ahead = cellThatWay(ship, second);
            log[0] += land[ahead] ? 1 : 0;
            hull -= land[ahead] ? 1 : 0;
            ship = land[ahead] ? ship : ahead;
        } else if (sign == 'f') {
            fog = second - '0';
        } else if (sign == 'c') {
            log[1]++;
            if (sighted().isEmpty()) {
                log[2]++;
                if (log[3] == -6) log[3] = log[4];
            }
        } else {
            hour++;
            hours++;
            fog = Math.max(0, fog - 1);
        }
        log[4]++;
        return 0;
    }

    /** first act that can not be, why, and the log of act(). */
    private static int[] voyage(Model sea, String text) {
        int[] log = {0, 0, 0, -6, 0};
        int stopped = -6;
        int why = -6;
        int place = 0;
        while (place < text.length()) {
            int size = text.charAt(place) == 'c' || text.charAt(place) == '.' ? 1 : 2;
            int reason = sea.act(text.substring(place, place + size), log);
            if (reason != 0) {
                stopped = log[4];
                why = reason;
                break;
            }
            place += size;
        }
        return new int[] {stopped, why, log[0], log[1], log[2], log[3], log[4]};
    }

    int judge(int what) {
        if (!in(what, 0, 2)) return -2;
        if (fault() != -6) return -5;
        int[] told = voyage(copy(), pad);
        return what == 2 && told[0] != -6 ? -3 : told[what];
    }

    private int refusal(int what, int most) {
        if (!in(what, 0, most)) return -2;
        return judge(2) < 0 ? judge(2) : 0;
    }

    int behind(int what) {
        if (refusal(what, 5) < 0) return refusal(what, 5);
        Model sea = copy();
        voyage(sea, pad);
        return sea.told(what + 2);
    }

    int seen(int what) {
        if (refusal(what, 2) < 0) return refusal(what, 2);
        Model sea = copy();
        voyage(sea, pad);
        if (sea.up == -6) return -6;
        int nearest = -6;
        for (int cell : sea.sighted()) {
            if (nearest == -6 || far(cell, sea.ship) < far(nearest, sea.ship)) nearest = cell;
        }
        if (what == 0) return sea.sighted().size();
        return what == 2 || nearest == -6 ? nearest : far(nearest, sea.ship);
    }

    int silence(int what) {
        if (refusal(what, 1) < 0) return refusal(what, 1);
        int[] told = voyage(copy(), pad);
        return what == 0 ? told[5] : told[3];
    }

    int done() {
        if (refusal(0, 0) < 0) return refusal(0, 0);
        int acts = voyage(this, pad)[6];
        pad = "";
        return acts;
    }

    private int[] farBySea(int to) {
        int[] steps = new int[64];
        Arrays.fill(steps, 1000);
        if (!land[to]) steps[to] = 0;
        for (int times = 0; times < 64; times++) {
            for (int cell = 0; cell < 64; cell++) {
                for (char way = '0'; way <= '7' && !land[cell]; way++) {
                    int ahead = cellThatWay(cell, way);
                    if (ahead >= 0 && steps[ahead] + 1 < steps[cell]) steps[cell] = steps[ahead] + 1;
                }
            }
        }
        return steps;
    }

    int course(int from, int to, int what) {
        if (!in(from, 0, 63) || !in(to, 0, 63)) return -1;
        if (!in(what, 0, 1)) return -2;
        int[] steps = farBySea(to);
        if (steps[from] >= 1000) return -6;
        if (what == 0) return steps[from];
        for (char way = '0'; way <= '7'; way++) {
            int ahead = cellThatWay(from, way);
            if (ahead >= 0 && steps[ahead] == steps[from] - 1) return way - '0';
        }
        return -6;
    }

    private static boolean bears(int from, int way, int cell) {
        int on = cellThatWay(from, (char) ('0' + way));
        while (on >= 0 && on != cell) {
            on = cellThatWay(on, (char) ('0' + way));
        }
        return on == cell;
    }

    int cross(int a, int d, int b, int e, int what) {
        if (!in(a, 0, 63) || !in(b, 0, 63)) return -1;
        if (!in(d, 0, 7) || !in(e, 0, 7) || !in(what, 0, 1)) return -2;
        List<Integer> cells = new ArrayList<>();
        for (int cell = 0; cell < 64; cell++) {
            if (cell != a && cell != b && bears(a, d, cell) && bears(b, e, cell)) cells.add(cell);
        }
        if (what == 0) return cells.size();
        return cells.isEmpty() ? -6 : cells.get(0);
    }

    private static boolean fits(String pieces, int at, int[] left) {
        if (at == pieces.length()) return true;
        int length = pieces.charAt(at) - '0';
        for (int rope = 0; rope < left.length; rope++) {
            if (left[rope] >= length) {
                left[rope] -= length;
                boolean all = fits(pieces, at + 1, left);
                left[rope] += length;
                if (all) return true;
            }
        }
        return false;
    }

    int ropes(int row, int n, int l, int what) {
        String pieces = "" + row;
        if (!in(n, 1, 9) || pieces.length() != n || !pieces.matches("[1-9]+")) return -2;
        if (!in(l, 9, 30) || !in(what, 0, 1)) return -2;
        if (what == 0) {
            for (int ropes = 1; ; ropes++) {
                int[] left = new int[ropes];
                Arrays.fill(left, l);
                if (fits(pieces, 0, left)) return ropes;
            }
        }
        int most = 0;
        for (int set = 0; set < 1 << n; set++) {
            int sum = 0;
            for (int i = 0; i < n; i++) {
                sum += (set >> i & 1) * (pieces.charAt(i) - '0');
            }
            if (sum <= l) most = Math.max(most, Integer.bitCount(set));
        }
        return most;
    }

    int look(int cell, int e, boolean sees) {
        if (!in(cell, 0, 63)) return -1;
        if (!in(e, 0, 7)) return -2;
        if (sights.size() == 8) return -4;
        sights.add(new int[] {cell, e, sees ? 1 : 0});
        return sights.size();
    }

    int forget() {
        int were = sights.size();
        sights.clear();
        return were;
    }

    private List<Integer> fitting(List<int[]> all) {
        List<Integer> cells = new ArrayList<>();
        for (int cell = 0; cell < 64; cell++) {
            boolean fits = true;
            for (int[] sight : all) {
                fits &= (far(cell, sight[0]) <= sight[1]) == (sight[2] == 1);
            }
            if (fits) cells.add(cell);
        }
        return cells;
    }

    int light(int i) {
        List<Integer> cells = fitting(sights);
        if (i == -1) return cells.size();
        return in(i, 0, cells.size() - 1) ? cells.get(i) : -6;
    }

    int ask(int what) {
        if (!in(what, 0, 1)) return -2;
        List<Integer> cells = fitting(sights);
        int best = -6;
        int fewest = 1000;
        for (int code = 0; code < 640 && !cells.isEmpty(); code++) {
            int seen = 0;
            for (int cell : cells) {
                seen += far(cell, code / 10) <= code % 10 ? 1 : 0;
            }
            int most = Math.max(seen, cells.size() - seen);
            if (code % 10 <= 7 && most < fewest) {
                fewest = most;
                best = code;
            }
        }
        return best == -6 || what == 0 ? best : fewest;
    }

    private static List<Integer> tacks(int cell) {
        List<Integer> cells = new ArrayList<>();
        for (int to = 0; to < 64; to++) {
            int rows = to / 8 - cell / 8;
            int columns = to % 8 - cell % 8;
            boolean up = rows == -2 && Math.abs(columns) == 1;
            boolean left = columns == -2 && Math.abs(rows) == 1;
            if (up || left) cells.add(to);
        }
        return cells;
    }

    private static int winningTack(int cell) {
        for (int to : tacks(cell)) {
            if (winningTack(to) == -6) return to;
        }
        return -6;
    }

    int tack(int cell, int what) {
        if (!in(cell, 0, 63)) return -1;
        if (!in(what, 0, 1)) return -2;
        int to = winningTack(cell);
        if (what == 1) return to;
        return to == -6 ? 0 : 1;
    }

    long first(int a, int b, int n, int what, int part) {
        boolean odd = !in(a, 0, 10) || !in(b, 0, 10) || !in(n, 0, 16) || !in(what, 0, 2) || !in(part, 0, 1);
        if (odd) return -1000000000000000000L - 2;
        BigInteger all = BigInteger.TEN.pow(n);
        BigInteger[] told = {BigInteger.ZERO, BigInteger.ZERO, BigInteger.ONE};
        for (int look = 0; look < n; look++) {
            int tenths = look % 2 == 0 ? a : b;
            BigInteger unit = BigInteger.TEN.pow(n - 1 - look);
            told[look % 2] = told[look % 2].add(told[2].multiply(BigInteger.valueOf(tenths)).multiply(unit));
            told[2] = told[2].multiply(BigInteger.valueOf(10 - tenths));
        }
        BigInteger shared = told[what].gcd(all);
        return (part == 0 ? told[what] : all).divide(shared).longValueExact();
    }

    int year(int seed, int m, int what) {
        if (!in(seed, 0, 9999) || !in(m, 1, 99) || !in(what, 0, 2)) return -2;
        Model sea = copy();
        int[] log = {0, 0, 0, -6, 0};
        int x = seed;
        String[] kinds = {"^", "w", "w", "w", "w", "f", "c", "."};
        for (int i = 0; i < m; i++) {
            x = (75 * x + 74) % 65537;
            String kind = kinds[x % 8];
            int y = x / 8;
            if (kind.equals("^")) {
                kind = (char) ('A' + y % 6) + "^";
            } else if (kind.equals("w") || kind.equals("f")) {
                kind = kind + y % 8;
            }
            sea.act(kind, log);
        }
        return what == 0 ? sea.ship : what == 1 ? sea.hull : log[2];
    }

    int image(int k) {
        if (!in(k, 0, 1)) return -2;
        images[k] = copy();
        return 1;
    }

    int restore(int k) {
        if (!in(k, 0, 1)) return -2;
        if (images[k] == null) return -3;
        become(images[k]);
        return 1;
    }

    int told(int what) {
        if (in(what, 10, 15)) return eyes[what - 10];
        if (in(what, 100, 163)) return land[what - 100] ? 1 : 0;
        int[] all = {pad.length(), lands(), ship, hull, up, up == -6 ? -6 : hours, fog, hour, sights.size()};
        return in(what, 0, 8) ? all[what] : -2;
    }
}
