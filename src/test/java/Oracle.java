import java.math.BigInteger;
import java.util.ArrayList;
import java.util.Arrays;
import java.util.List;

/**
 * The document once more, told as slowly and as plainly as can be, to be set beside ElectingWind:
 * nothing is kept, a minute is gone through in two passes (who turns; then who is returned), and a
 * fault is sought as the end of the longest beginning that some well text has.
 */
final class Oracle {
    static final int NONE = -1, BAD = -2, NOT = -3, FULL = -4;
    private static final int[] LIMITS = {29, 24, 39};

    private final StringBuilder[] texts = {new StringBuilder(), new StringBuilder(), new StringBuilder()};
    private final List<int[]> seen = new ArrayList<>();
    private final int[] forms = {NONE, NONE, NONE, NONE};
    private final int[][] sheets = new int[4][];
    private int finding = 0;

    /** All that can be asked of one course of the wind. */
    private static final class Tale {
        List<String> rows = new ArrayList<>();
        int[][] gusts = new int[0][];
        int[][] people = new int[0][]; // cell, ribs, held
        int[][] ribs;
        int[] turns;
        boolean[] returned;
        int[] elected;
        int[] in;

        Tale again() {
            Tale t = new Tale();
            t.rows = new ArrayList<>(rows);
            t.gusts = new int[gusts.length][];
            for (int i = 0; i < gusts.length; i++) t.gusts[i] = gusts[i].clone();
            t.people = new int[people.length][];
            for (int i = 0; i < people.length; i++) t.people[i] = people[i].clone();
            return t;
        }

        int width() { return rows.isEmpty() ? 0 : rows.get(0).length(); }
        int cells() { return rows.size() * width(); }

        char sign(int row, int column) {
            return row < 0 || row >= rows.size() || column < 0 || column >= width() ? ' ' : rows.get(row).charAt(column);
        }

        boolean open(int cell) { return cell >= 0 && cell < cells() && sign(cell / width(), cell % width()) == '.'; }
        boolean wall(int cell) { return cell >= 0 && cell < cells() && sign(cell / width(), cell % width()) == '#'; }
        boolean somewhere(int c) { return open(people[c][0]); }

        int wind(int minute, int cell) {
            int[] dr = {-1, 0, 1, 0}, dc = {0, 1, 0, -1};
            int r = cell / width(), k = cell % width(), d = gusts[minute][0];
            if (sign(r, k) == '#') return 0;
            if (sign(r + dr[d], k + dc[d]) == '#') return 0;
            int w = gusts[minute][1];
            if (sign(r + 2 * dr[d], k + 2 * dc[d]) == '#') w = w / 2;
            int a = (d + 1) % 4, b = (d + 3) % 4;
            if (w != 0 && sign(r + dr[a], k + dc[a]) == '#' && sign(r + dr[b], k + dc[b]) == '#') w = w + 3;
            for (int c = 0; c < people.length; c++) {
                boolean unturned = turns[c] == NONE || turns[c] >= minute;
                if (somewhere(c) && unturned && people[c][0] / width() == r + dr[d] && people[c][0] % width() == k + dc[d]) {
                    return w / 2;
                }
            }
            return w;
        }

        Tale run() {
            int n = gusts.length, p = people.length;
            ribs = new int[n + 1][p];
            turns = new int[p];
            returned = new boolean[p];
            elected = new int[n];
            in = new int[n];
            Arrays.fill(turns, NONE);
            for (int c = 0; c < p; c++) ribs[0][c] = people[c][1];
            for (int m = 0; m < n; m++) {
                List<Integer> now = new ArrayList<>();
                for (int c = 0; c < p; c++) {
                    ribs[m + 1][c] = ribs[m][c];
                    if (!somewhere(c) || turns[c] != NONE) continue;
                    int w = wind(m, people[c][0]);
                    int strain = new int[] {w / 2, w, w * 2}[people[c][2]];
                    if (strain > ribs[m][c]) now.add(c);
                    else if (strain == ribs[m][c] && ribs[m][c] > 1) ribs[m + 1][c]--;
                }
                for (int c : now) turns[c] = m;
            }
            int who = NONE;
            for (int m = 0; m < n; m++) {
                elected[m] = NONE;
                for (int c = 0; c < p; c++) {
                    if (turns[c] != m) continue;
                    returned[c] = m + 1 < n && wind(m + 1, people[c][0]) == 0;
                    if (returned[c]) continue;
                    if (elected[m] == NONE || ribs[m][c] < ribs[m][elected[m]]) elected[m] = c;
                }
                if (elected[m] != NONE) who = elected[m];
                in[m] = who;
            }
            return this;
        }

        int last() { return in.length == 0 ? NONE : in[in.length - 1]; }
        int umbrellas() { int k = 0; for (int t : turns) if (t != NONE) k++; return k; }

        boolean taken(int cell, int but) {
            for (int c = 0; c < people.length; c++) if (c != but && somewhere(c) && people[c][0] == cell) return true;
            return false;
        }
    }

    private static boolean begins(int text, String t) {
        if (text == 1) return t.matches("([nesw][0-9])*[nesw]?");
        if (text == 2) return t.matches("([0-2][0-9][1-9][hox];)*([0-2]([0-9]([1-9][hox]?)?)?)?");
        String[] rows = t.split(";", -1);
        if (rows.length > 6 || rows.length == 6 && !rows[5].isEmpty()) return false;
        for (int i = 0; i < rows.length; i++) {
            boolean last = i == rows.length - 1;
            int most = i == 0 ? 5 : rows[0].length();
            if (!rows[i].matches("[.#]*") || rows[i].length() > most) return false;
            if (!last && (rows[i].isEmpty() || i > 0 && rows[i].length() != most)) return false;
        }
        return true;
    }

    private static boolean well(int text, String t) {
        if (t.isEmpty()) return true;
        if (!begins(text, t)) return false;
        if (text == 1) return t.length() % 2 == 0;
        if (text == 2) return t.matches("([0-2][0-9][1-9][hox];)*[0-2][0-9][1-9][hox]");
        String[] rows = t.split(";", -1);
        return rows.length <= 5 && rows[rows.length - 1].length() == rows[0].length();
    }

    int fault(int text) {
        if (text < 0 || text > 2) return BAD;
        String t = texts[text].toString();
        if (well(text, t)) return NONE;
        for (int i = 0; i < t.length(); i++) if (!begins(text, t.substring(0, i + 1))) return i;
        return t.length();
    }

    private Tale told() {
        Tale t = new Tale();
        if (texts[0].length() > 0 && fault(0) == NONE) t.rows = new ArrayList<>(Arrays.asList(texts[0].toString().split(";")));
        if (fault(1) == NONE) {
            t.gusts = new int[texts[1].length() / 2][];
            for (int m = 0; m < t.gusts.length; m++) {
                t.gusts[m] = new int[] {"nesw".indexOf(texts[1].charAt(2 * m)), texts[1].charAt(2 * m + 1) - '0'};
            }
        }
        if (texts[2].length() > 0 && fault(2) == NONE) {
            String[] parts = texts[2].toString().split(";");
            t.people = new int[parts.length][];
            for (int c = 0; c < parts.length; c++) {
                t.people[c] = new int[] {Integer.parseInt(parts[c].substring(0, 2)), parts[c].charAt(2) - '0',
                    "hox".indexOf(parts[c].charAt(3))};
            }
        }
        return t.run();
    }

    int type(int text, int b) {
        if (text < 0 || text > 2 || b < 0 || b > 255) return BAD;
        if (texts[text].length() == LIMITS[text]) return FULL;
        texts[text].append((char) b);
        return texts[text].length();
    }

    int wipe(int text) {
        if (text < 0 || text > 2) return BAD;
        int k = texts[text].length();
        texts[text].setLength(0);
        return k;
    }

    int undo(int text) {
        if (text < 0 || text > 2) return BAD;
        if (texts[text].length() == 0) return NOT;
        texts[text].setLength(texts[text].length() - 1);
        return texts[text].length();
    }

    int cell(int cell) {
        if (cell < 0 || cell > 24) return BAD;
        Tale t = told();
        return t.open(cell) ? 0 : t.wall(cell) ? 1 : NONE;
    }

    private boolean noMinute(int m) { return m < 0 || m >= told().gusts.length; }
    private boolean noOne(int c) { return c < 0 || c >= told().people.length; }
    private static boolean not(int what, int most) { return what < 0 || what > most; }

    int gust(int m, int what) { return noMinute(m) || not(what, 1) ? BAD : told().gusts[m][what]; }

    int candidate(int c, int what) {
        if (noOne(c) || not(what, 3)) return BAD;
        return what == 3 ? (told().somewhere(c) ? 1 : 0) : told().people[c][what];
    }

    int wind(int m, int cell) { return noMinute(m) || not(cell, told().cells() - 1) ? BAD : told().wind(m, cell); }
    int ribs(int m, int c) { return noMinute(m) || noOne(c) ? BAD : told().ribs[m][c]; }

    int overturns(int c, int what) {
        if (noOne(c) || not(what, 3)) return BAD;
        Tale t = told();
        if (what == 0) return t.turns[c];
        if (what == 1) return t.returned[c] ? 1 : 0;
        int elected = 0, minutes = 0;
        for (int m = 0; m < t.gusts.length; m++) {
            if (t.elected[m] == c) elected++;
            if (t.in[m] == c) minutes++;
        }
        return what == 2 ? elected : minutes;
    }

    int in(int m) { return noMinute(m) ? BAD : told().in[m]; }

    int first(int what) {
        if (not(what, 1)) return BAD;
        Tale t = told();
        for (int m = 0; m < t.gusts.length; m++) if (t.elected[m] != NONE) return what == 0 ? m : t.elected[m];
        return NONE;
    }

    int lulls() {
        int k = 0;
        for (int who : told().in) if (who == NONE) k++;
        return k;
    }

    int stand(int c, int what) {
        if (noOne(c) || not(what, 1)) return BAD;
        Tale t = told();
        for (int m = 0; m < t.gusts.length; m++) {
            for (int cell = 0; cell < t.cells(); cell++) {
                if (!t.open(cell) || t.taken(cell, c)) continue;
                Tale u = t.again();
                u.people[c][0] = cell;
                if (u.run().turns[c] == m) return what == 0 ? cell : m;
            }
        }
        return NONE;
    }

    int shield(int c) {
        if (noOne(c)) return BAD;
        Tale t = told();
        if (t.turns[c] == NONE) return NOT;
        for (int o = 0; o < t.people.length; o++) {
            for (int cell = 0; cell < t.cells(); cell++) {
                if (o == c || !t.open(cell) || t.taken(cell, NONE)) continue;
                Tale u = t.again();
                u.people[o][0] = cell;
                if (u.run().turns[c] == NONE) return 32 * o + cell;
            }
        }
        return NONE;
    }

    int move(int what) {
        if (not(what, 1)) return BAD;
        Tale t = told();
        List<Integer> ways = new ArrayList<>();
        for (int cell = 0; cell < t.cells(); cell++) {
            for (int way = 0; way < 4; way++) {
                int r = cell / t.width() + new int[] {-1, 0, 1, 0}[way], k = cell % t.width() + new int[] {0, 1, 0, -1}[way];
                if (!t.wall(cell) || t.sign(r, k) != '.' || t.taken(r * t.width() + k, NONE)) continue;
                Tale u = t.again();
                StringBuilder all = new StringBuilder(String.join("", t.rows));
                all.setCharAt(cell, '.');
                all.setCharAt(r * t.width() + k, '#');
                for (int i = 0; i < u.rows.size(); i++) u.rows.set(i, all.substring(i * t.width(), (i + 1) * t.width()));
                if (u.run().last() != t.last()) ways.add(4 * cell + way);
            }
        }
        return what == 0 ? ways.size() : ways.isEmpty() ? NONE : ways.get(0);
    }

    int bribe(int c) {
        if (noOne(c)) return BAD;
        for (int fewer = 0; fewer < told().people[c][1]; fewer++) {
            Tale u = told().again();
            u.people[c][1] -= fewer;
            if (u.run().last() == c) return fewer;
        }
        return NONE;
    }

    int seen(int m, int c) {
        if (not(m, 11) || not(c, 8)) return BAD;
        if (seen.size() == 8) return FULL;
        seen.add(new int[] {m, c});
        return seen.size();
    }

    int forget() {
        int k = seen.size();
        seen.clear();
        return k;
    }

    int read(int s) {
        if (not(s, 3)) return BAD;
        if (sheets[s] == null) return find(1);
        int k = 0;
        while (2 * k + 1 < sheets[s].length && seen(sheets[s][2 * k], sheets[s][2 * k + 1]) > 0) k++;
        return k;
    }

    private boolean soSeen(Tale t) {
        for (int[] one : seen) {
            if (one[0] >= t.in.length || t.in[one[0]] != (one[1] == 8 ? NONE : one[1])) return false;
        }
        return true;
    }

    private List<Tale> mayHaveBlown(int m) {
        List<Tale> all = new ArrayList<>();
        for (int d = 0; d < 4; d++) {
            for (int f = 0; f < 10; f++) {
                Tale u = told().again();
                u.gusts[m] = new int[] {d, f};
                if (soSeen(u.run())) all.add(u);
            }
        }
        return all;
    }

    int blew(int m, int i) {
        if (noMinute(m) || i < -1 || i > 39) return BAD;
        List<Tale> all = mayHaveBlown(m);
        if (i == -1) return all.size();
        return i < all.size() ? 10 * all.get(i).gusts[m][0] + all.get(i).gusts[m][1] : NONE;
    }

    int had(int c) {
        if (noOne(c)) return BAD;
        int bits = 0;
        for (int r = 1; r < 10; r++) {
            Tale u = told().again();
            u.people[c][1] = r;
            if (soSeen(u.run())) bits += 1 << r;
        }
        return bits;
    }

    int ask(int m) {
        if (noMinute(m)) return BAD;
        List<Tale> all = mayHaveBlown(m);
        int best = NONE, least = Integer.MAX_VALUE;
        for (int q = 0; q < told().gusts.length; q++) {
            int greatest = 0;
            for (int who = -1; who < 8; who++) {
                int k = 0;
                for (Tale t : all) if (t.in[q] == who) k++;
                greatest = Math.max(greatest, k);
            }
            if (greatest < least) {
                least = greatest;
                best = q;
            }
        }
        return best;
    }

    long calm(int c, int candidate, int what) {
        if (not(c, 16) || noOne(candidate) || not(what, 1)) return Long.MIN_VALUE + 2;
        Tale t = told();
        int n = t.gusts.length;
        BigInteger above = BigInteger.ZERO, below = BigInteger.valueOf(16).pow(n);
        for (int set = 0; set < 1 << n; set++) {
            Tale u = t.again();
            BigInteger weight = BigInteger.ONE;
            for (int m = 0; m < n; m++) {
                boolean blows = (set >> m) % 2 == 1;
                if (!blows) u.gusts[m][1] = 0;
                weight = weight.multiply(BigInteger.valueOf(blows ? c : 16 - c));
            }
            if (weight.signum() != 0 && u.run().last() == candidate) above = above.add(weight);
        }
        BigInteger g = above.gcd(below);
        return (what == 0 ? above : below).divide(g).longValueExact();
    }

    int weather(int seed, int n, int what) {
        if (n < 1 || n > 12 || not(what, 1)) return BAD;
        Tale u = told().again();
        u.gusts = new int[n][2];
        BigInteger lots = BigInteger.valueOf(seed), wrap = BigInteger.ONE.shiftLeft(32);
        for (int m = 0; m < n; m++) {
            for (int part = 0; part < 2; part++) {
                lots = lots.multiply(BigInteger.valueOf(1103515245)).add(BigInteger.valueOf(12345)).mod(wrap);
                u.gusts[m][part] = lots.shiftRight(16).intValueExact() % (part == 0 ? 4 : 10);
            }
        }
        u.run();
        return what == 0 ? u.last() : u.umbrellas();
    }

    private int find(int number) {
        finding = number;
        return -10 - number;
    }

    private static int cut(int form, int v) { return form == 0 ? (byte) v : form == 1 ? (short) v : v; }

    int sheet(int s, int form, int n) {
        if (not(s, 3) || not(form, 2) || n > 60) return BAD;
        if (n < 0) return find(5);
        forms[s] = form;
        sheets[s] = new int[n];
        return n;
    }

    int lose(int s) {
        if (not(s, 3)) return BAD;
        if (sheets[s] == null) return find(1);
        int k = sheets[s].length;
        sheets[s] = null;
        return k;
    }

    private int trouble(int s, int form, int i) {
        return sheets[s] == null ? 1 : forms[s] != form ? 3 : not(i, sheets[s].length - 1) ? 2 : 0;
    }

    int put(int s, int form, int i, int v) {
        if (not(s, 3) || not(form, 2)) return BAD;
        int k = trouble(s, form, i);
        if (k != 0) return find(k);
        sheets[s][i] = cut(form, v);
        return 1;
    }

    int get(int s, int form, int i) {
        if (not(s, 3) || not(form, 2)) return Integer.MIN_VALUE;
        int k = trouble(s, form, i);
        if (k != 0) find(k);
        return k != 0 ? Integer.MIN_VALUE : sheets[s][i];
    }

    int copy(int s, int i, int t, int j, int n) {
        if (not(s, 3) || not(t, 3)) return BAD;
        if (sheets[s] == null || sheets[t] == null) return find(1);
        if (forms[s] != forms[t]) return find(4);
        if (i < 0 || j < 0 || n < 0 || (long) i + n > sheets[s].length || (long) j + n > sheets[t].length) return find(2);
        int[] taken = Arrays.copyOfRange(sheets[s], i, i + n);
        for (int k = 0; k < n; k++) sheets[t][j + k] = taken[k];
        return 1;
    }

    int write(int m, int s) {
        if (noMinute(m) || not(s, 3)) return BAD;
        if (sheets[s] == null) return find(1);
        int k = 0;
        while (k < sheets[s].length && k < told().cells()) {
            sheets[s][k] = cut(forms[s], told().wind(m, k));
            k++;
        }
        return k;
    }

    int count(int what) {
        if (not(what, 8)) return BAD;
        Tale t = told();
        return new int[] {t.cells(), t.gusts.length, t.people.length, texts[0].length(), texts[1].length(),
            texts[2].length(), t.umbrellas(), seen.size(), finding}[what];
    }

    long digest() {
        Tale t = told();
        List<Long> all = new ArrayList<>();
        for (int k = 0; k < 8; k++) all.add((long) count(k));
        for (int k = 0; k < 3; k++) all.add((long) fault(k));
        for (int k = 0; k < t.cells(); k++) all.add((long) cell(k));
        for (int m = 0; m < t.gusts.length; m++) {
            for (int v : new int[] {gust(m, 0), gust(m, 1), in(m), ask(m), blew(m, NONE), blew(m, 0)}) all.add((long) v);
            for (int k = 0; k < t.cells(); k++) all.add((long) wind(m, k));
            for (int k = 0; k < t.people.length; k++) all.add((long) ribs(m, k));
        }
        for (int c = 0; c < t.people.length; c++) {
            for (int k = 0; k < 4; k++) all.add((long) candidate(c, k));
            for (int k = 0; k < 4; k++) all.add((long) overturns(c, k));
            for (int v : new int[] {stand(c, 0), stand(c, 1), shield(c), bribe(c), had(c)}) all.add((long) v);
            all.add(calm(5, c, 0));
            all.add(calm(5, c, 1));
        }
        for (int v : new int[] {first(0), first(1), lulls(), move(0), move(1), weather(7, 9, 0), weather(7, 9, 1)}) {
            all.add((long) v);
        }
        long h = 17;
        for (long v : all) h = 31 * h + v;
        return h;
    }
}
