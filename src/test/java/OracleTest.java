import java.util.Random;

/** Runs of calls by chance (of fixed seeds), each answer set beside the Oracle's. */
public final class OracleTest {
    private static final int RUNS = 400;
    private static int passed = 0;
    private static int failed = 0;

    private final Random chance;
    private final ElectingWind x = new ElectingWind();
    private final Oracle o = new Oracle();
    private final StringBuilder calls = new StringBuilder();
    private boolean well = true;

    private OracleTest(long seed) { chance = new Random(seed); }

    private void same(String call, long got, long due) {
        calls.append(call).append(' ');
        if (got == due) {
            passed++;
        } else {
            failed++;
            well = false;
            System.out.println("OracleTest: " + calls + "answered " + got + ", due is " + due);
        }
    }

    private int pick(int least, int most) { return least + chance.nextInt(most - least + 1); }
    private char sign(String of) { return of.charAt(chance.nextInt(of.length())); }

    private void tell(int text, String bytes) {
        same("wipe(" + text + ")", x.wipe(text), o.wipe(text));
        for (char b : bytes.toCharArray()) same("type(" + text + "," + (int) b + ")", x.type(text, b), o.type(text, b));
    }

    private String corner() {
        int rows = pick(1, 5), columns = pick(1, 5);
        String signs = new String[] {".", "..#", "...#", "....#", ".#"}[pick(0, 4)];
        StringBuilder t = new StringBuilder();
        for (int r = 0; r < rows; r++) {
            if (r > 0) t.append(';');
            for (int c = 0; c < columns; c++) t.append(sign(signs));
        }
        return t.toString();
    }

    private String gusts(int most) {
        StringBuilder t = new StringBuilder();
        String forces = new String[] {"0123456789", "0099", "56789", "0123"}[pick(0, 3)];
        String ways = new String[] {"nesw", "ns", "n", "ew"}[pick(0, 3)];
        for (int m = pick(0, most); m > 0; m--) t.append(sign(ways)).append(sign(forces));
        return t.toString();
    }

    private String candidates() {
        StringBuilder t = new StringBuilder();
        int highest = pick(1, 29);
        for (int c = pick(1, 8); c > 0; c--) {
            int cell = pick(0, highest);
            if (t.length() > 0) t.append(';');
            t.append((char) ('0' + cell / 10)).append((char) ('0' + cell % 10)).append(sign("123456789")).append(sign("hox"));
        }
        return t.toString();
    }

    private String spoilt(String text, String signs) {
        StringBuilder t = new StringBuilder(text);
        if (pick(0, 2) == 0 || t.length() == 0) return t.append(sign(signs)).toString();
        int place = chance.nextInt(t.length());
        if (pick(0, 1) == 0) t.setCharAt(place, sign(signs)); else t.deleteCharAt(place);
        return t.toString();
    }

    private void one() {
        int m = pick(-1, 12), c = pick(-1, 8), k = pick(-1, 25), w = pick(-1, 4), s = pick(-1, 4), f = pick(-1, 3);
        int i = pick(-2, 12), j = pick(-2, 12), n = pick(-2, 12), v = pick(0, 3) == 0 ? chance.nextInt() : pick(-300, 300);
        switch (pick(0, 30)) {
            case 0: same("fault" + w, x.fault(w), o.fault(w)); break;
            case 1: same("cell" + k, x.cell(k), o.cell(k)); break;
            case 2: same("gust" + m + "," + w, x.gust(m, w), o.gust(m, w)); break;
            case 3: same("candidate" + c + "," + w, x.candidate(c, w), o.candidate(c, w)); break;
            case 4: same("wind" + m + "," + k, x.wind(m, k), o.wind(m, k)); break;
            case 5: same("ribs" + m + "," + c, x.ribs(m, c), o.ribs(m, c)); break;
            case 6: same("overturns" + c + "," + w, x.overturns(c, w), o.overturns(c, w)); break;
            case 7: same("in" + m, x.in(m), o.in(m)); break;
            case 8: same("first" + w, x.first(w), o.first(w)); break;
            case 9: same("lulls", x.lulls(), o.lulls()); break;
            case 10: same("stand" + c + "," + w, x.stand(c, w), o.stand(c, w)); break;
            case 11: same("shield" + c, x.shield(c), o.shield(c)); break;
            case 12: same("move" + w, x.move(w), o.move(w)); break;
            case 13: same("bribe" + c, x.bribe(c), o.bribe(c)); break;
            case 14: same("seen" + m + "," + i, x.seen(m, i), o.seen(m, i)); break;
            case 15: same("forget", x.forget(), o.forget()); break;
            case 16: same("read" + s, x.read(s), o.read(s)); break;
            case 17: same("blew" + m + "," + n, x.blew(m, n), o.blew(m, n)); break;
            case 18: same("had" + c, x.had(c), o.had(c)); break;
            case 19: same("ask" + m, x.ask(m), o.ask(m)); break;
            case 20: {
                int by = pick(-1, 17), part = pick(0, 5) == 0 ? w : pick(0, 1);
                same("calm" + by + "," + c + "," + part, x.calm(by, c, part), o.calm(by, c, part));
                break;
            }
            case 21: {
                int seed = chance.nextInt(), gusts = pick(0, 13);
                same("weather" + seed + "," + gusts + "," + w, x.weather(seed, gusts, w), o.weather(seed, gusts, w));
                break;
            }
            case 22: {
                int size = pick(0, 4) == 0 ? pick(58, 62) : n;
                same("sheet" + s + "," + f + "," + size, x.sheet(s, f, size), o.sheet(s, f, size));
                break;
            }
            case 23: if (pick(0, 3) == 0) same("lose" + s, x.lose(s), o.lose(s)); break;
            case 24: case 25: same("put" + s + "," + f + "," + i + "," + v, x.put(s, f, i, v), o.put(s, f, i, v)); break;
            case 26: same("get" + s + "," + f + "," + i, x.get(s, f, i), o.get(s, f, i)); break;
            case 27: {
                int t = pick(-1, 4);
                same("copy" + s + "," + i + "," + t + "," + j + "," + n, x.copy(s, i, t, j, n), o.copy(s, i, t, j, n));
                break;
            }
            case 28: same("write" + m + "," + s, x.write(m, s), o.write(m, s)); break;
            case 29: same("undo" + w, x.undo(w), o.undo(w)); break;
            default: same("count" + i, x.count(i), o.count(i)); break;
        }
    }

    /** Sightings that are true of what is told, so that something is left that may have been. */
    private void lookAtWhatIs() {
        for (int k = pick(1, 3); k > 0; k--) {
            int m = pick(0, Math.max(0, o.count(1) - 1)), who = o.in(m);
            same("seen" + m, x.seen(m, who == Oracle.NONE ? 8 : who), o.seen(m, who == Oracle.NONE ? 8 : who));
        }
    }

    private void run(int mostMinutes) {
        for (int round = 0; round < 3 && well; round++) {
            String corner = corner(), gusts = gusts(mostMinutes), candidates = candidates();
            tell(0, pick(0, 4) == 0 ? spoilt(corner, ".#;x") : corner);
            tell(1, pick(0, 4) == 0 ? spoilt(gusts, "nesw09;") : gusts);
            tell(2, pick(0, 4) == 0 ? spoilt(candidates, "0129hox;") : candidates);
            same("digest", x.digest(), o.digest());
            if (pick(0, 1) == 0) lookAtWhatIs();
            for (int call = 0; call < 40 && well; call++) one();
            same("digest", x.digest(), o.digest());
        }
    }

    public static void main(String[] args) {
        for (int run = 0; run < RUNS; run++) new OracleTest(run).run(run % 50 == 0 ? 12 : 6);
        System.out.println("OracleTest: " + passed + " answers are as due, " + failed + " are not");
        if (failed != 0) System.exit(1);
    }
}
