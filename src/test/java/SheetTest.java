import java.util.ArrayList;
import java.util.List;

/** Promises 27 to 34: sheets, counts, the digest. */
public final class SheetTest {
    private static final int NONE = ElectingWind.NONE, BAD = ElectingWind.BAD;
    private static final int NULL = -11, INDEX = -12, CAST = -13, STORE = -14, SIZE = -15;
    private static final Checks c = new Checks("SheetTest");

    private static void sheet() {
        c.promise(27);
        ElectingWind x = new ElectingWind();
        for (int form = 0; form < 3; form++) {
            c.due("sheet(0, " + form + ", 60)", x.sheet(0, form, 60), 60);
            for (int i = 0; i < 60; i++) c.due("get(0, " + form + ", " + i + ")", x.get(0, form, i), 0);
        }
        c.due("sheet(3, 0, 0)", x.sheet(3, 0, 0), 0);
        x.put(0, 2, 5, 77);
        c.due("sheet anew", x.sheet(0, 2, 6), 6);
        c.due("an item of a new row", x.get(0, 2, 5), 0);
        c.due("sheet(4, 0, 1)", x.sheet(4, 0, 1), BAD);
        c.due("sheet(-1, 0, 1)", x.sheet(-1, 0, 1), BAD);
        c.due("sheet(0, 3, 1)", x.sheet(0, 3, 1), BAD);
        c.due("sheet(0, -1, 1)", x.sheet(0, -1, 1), BAD);
        c.due("sheet(0, 0, 61)", x.sheet(0, 0, 61), BAD);
        c.due("sheet(0, 3, -1)", x.sheet(0, 3, -1), BAD);
        c.due("BAD is no finding", x.count(8), 0);
        c.due("sheet(0, 0, -1)", x.sheet(0, 0, -1), SIZE);
        c.due("sheet(0, 0, least)", x.sheet(0, 0, Integer.MIN_VALUE), SIZE);
        c.due("count(8)", x.count(8), 5);
        c.due("a refused sheet leaves the one that is", x.lose(0), 6);
    }

    private static void lose() {
        c.promise(28);
        ElectingWind x = new ElectingWind();
        c.due("lose(0) of one LOST", x.lose(0), NULL);
        c.due("count(8)", x.count(8), 1);
        x.sheet(0, 1, 7);
        c.due("lose(0)", x.lose(0), 7);
        c.due("lose(0) again", x.lose(0), NULL);
        x.sheet(0, 1, 0);
        c.due("lose(0) of no items", x.lose(0), 0);
        c.due("lose(-1)", x.lose(-1), BAD);
        c.due("lose(4)", x.lose(4), BAD);
    }

    private static void put() {
        c.promise(29);
        ElectingWind x = new ElectingWind();
        c.due("put in one LOST", x.put(0, 0, 0, 1), NULL);
        x.sheet(0, 0, 2);
        x.sheet(1, 1, 2);
        x.sheet(2, 2, 2);
        int[] given = {127, 128, 255, 256, -129, 32768, 65535, 65536, Integer.MIN_VALUE, Integer.MAX_VALUE};
        for (int v : given) {
            c.due("put(0, 0, 1, v)", x.put(0, 0, 1, v), 1);
            c.due("get(0, 0, 1) of " + v, x.get(0, 0, 1), (byte) v);
            c.due("put(1, 1, 1, v)", x.put(1, 1, 1, v), 1);
            c.due("get(1, 1, 1) of " + v, x.get(1, 1, 1), (short) v);
            c.due("put(2, 2, 1, v)", x.put(2, 2, 1, v), 1);
            c.due("get(2, 2, 1) of " + v, x.get(2, 2, 1), v);
        }
        c.due("the item beside", x.get(0, 0, 0), 0);
        c.due("put(0, 1, 9, 1): CAST ahead of INDEX", x.put(0, 1, 9, 1), CAST);
        c.due("count(8)", x.count(8), 3);
        c.due("put(0, 0, 2, 1)", x.put(0, 0, 2, 1), INDEX);
        c.due("put(0, 0, -1, 1)", x.put(0, 0, -1, 1), INDEX);
        c.due("count(8)", x.count(8), 2);
        c.due("put(4, 0, 0, 1)", x.put(4, 0, 0, 1), BAD);
        c.due("put(-1, 0, 0, 1)", x.put(-1, 0, 0, 1), BAD);
        c.due("put(3, 3, 0, 1): BAD ahead of NULL", x.put(3, 3, 0, 1), BAD);
        c.due("put(3, -1, 0, 1)", x.put(3, -1, 0, 1), BAD);
        c.due("put(3, 0, 9, 1): NULL", x.put(3, 0, 9, 1), NULL);
    }

    private static void get() {
        c.promise(30);
        int no = Integer.MIN_VALUE;
        ElectingWind x = new ElectingWind();
        c.due("get(4, 0, 0)", x.get(4, 0, 0), no);
        c.due("get(-1, 0, 0)", x.get(-1, 0, 0), no);
        c.due("get(0, 3, 0)", x.get(0, 3, 0), no);
        c.due("get(0, -1, 0)", x.get(0, -1, 0), no);
        c.due("BAD is no finding", x.count(8), 0);
        c.due("get of one LOST", x.get(0, 0, 0), no);
        c.due("count(8)", x.count(8), 1);
        x.sheet(0, 1, 3);
        x.put(0, 1, 2, -5);
        c.due("get(0, 1, 2)", x.get(0, 1, 2), -5);
        c.due("get(0, 0, 3)", x.get(0, 0, 3), no);
        c.due("count(8)", x.count(8), 3);
        c.due("get(0, 1, 3)", x.get(0, 1, 3), no);
        c.due("count(8)", x.count(8), 2);
        c.due("get(0, 2, 0)", x.get(0, 2, 0), no);
        c.due("get(0, 1, -1)", x.get(0, 1, -1), no);
        c.due("count(8)", x.count(8), 2);
    }

    private static void row(ElectingWind x, int s, int... due) {
        for (int i = 0; i < due.length; i++) c.due("item " + i + " of " + s, x.get(s, 2, i), due[i]);
    }

    private static ElectingWind two() {
        ElectingWind x = new ElectingWind();
        x.sheet(0, 2, 5);
        x.sheet(1, 2, 3);
        for (int i = 0; i < 5; i++) x.put(0, 2, i, 10 + i);
        return x;
    }

    private static void copy() {
        c.promise(31);
        ElectingWind x = two();
        c.due("copy(0, 1, 1, 0, 3)", x.copy(0, 1, 1, 0, 3), 1);
        row(x, 1, 11, 12, 13);
        row(x, 0, 10, 11, 12, 13, 14);
        c.due("copy(0, 0, 0, 1, 4)", x.copy(0, 0, 0, 1, 4), 1);
        row(x, 0, 10, 10, 11, 12, 13);
        x = two();
        c.due("copy(0, 1, 0, 0, 4)", x.copy(0, 1, 0, 0, 4), 1);
        row(x, 0, 11, 12, 13, 14, 14);
        c.due("copy of n 0 at the ends", x.copy(0, 5, 1, 3, 0), 1);
        int[][] beyond = {{6, 0, 0}, {0, 4, 0}, {-1, 0, 1}, {0, -1, 1}, {0, 0, -1}, {3, 0, 3}, {0, 1, 3},
            {5, 0, 1}, {Integer.MAX_VALUE, 0, 1}, {0, Integer.MAX_VALUE, 1}, {1, 0, Integer.MAX_VALUE},
            {Integer.MIN_VALUE, 0, 0}, {0, 0, Integer.MIN_VALUE}};
        for (int[] b : beyond) {
            c.due("copy(0, " + b[0] + ", 1, " + b[1] + ", " + b[2] + ")", x.copy(0, b[0], 1, b[1], b[2]), INDEX);
        }
        c.due("count(8)", x.count(8), 2);
        row(x, 1, 0, 0, 0);
        x.sheet(2, 1, 5);
        c.due("copy between FORMS, ahead of INDEX", x.copy(0, 9, 2, 0, 1), STORE);
        c.due("count(8)", x.count(8), 4);
        c.due("copy to one LOST", x.copy(2, 0, 3, 0, 1), NULL);
        c.due("copy from one LOST", x.copy(3, 0, 2, 0, 1), NULL);
        c.due("copy(4, ..)", x.copy(4, 0, 0, 0, 1), BAD);
        c.due("copy(0, 0, 4, ..)", x.copy(0, 0, 4, 0, 1), BAD);
        c.due("copy(-1, ..)", x.copy(-1, 0, 0, 0, 1), BAD);
        c.due("copy(3, 0, -1, ..): BAD ahead of NULL", x.copy(3, 0, -1, 0, 1), BAD);
    }

    private static void write() {
        c.promise(32);
        ElectingWind x = Checks.told("#;.;.;.", "n9s4", "038h");
        c.due("write(0, 0) to one LOST", x.write(0, 0), NULL);
        x.sheet(0, 2, 6);
        for (int i = 0; i < 6; i++) x.put(0, 2, i, 99);
        c.due("write(0, 0)", x.write(0, 0), 4);
        row(x, 0, 0, 0, 4, 9, 99, 99);
        c.due("write(1, 0)", x.write(1, 0), 4);
        row(x, 0, 0, 4, 2, 4, 99, 99);
        x.sheet(1, 2, 3);
        c.due("write to three items", x.write(0, 1), 3);
        row(x, 1, 0, 0, 4);
        x.sheet(2, 0, 4);
        c.due("write to bytes", x.write(0, 2), 4);
        c.due("an item of bytes", x.get(2, 0, 3), 9);
        x.sheet(2, 1, 0);
        c.due("write to no items", x.write(0, 2), 0);
        c.due("write(2, 0)", x.write(2, 0), BAD);
        c.due("write(-1, 0)", x.write(-1, 0), BAD);
        c.due("write(0, 4)", x.write(0, 4), BAD);
        c.due("write(0, -1)", x.write(0, -1), BAD);
        c.due("write(2, 3): BAD ahead of NULL", x.write(2, 3), BAD);
        Checks.tell(x, 0, "");
        c.due("write of no cells", x.write(0, 0), 0);
    }

    private static void counts(ElectingWind x, int... due) {
        for (int what = 0; what < due.length; what++) c.due("count(" + what + ")", x.count(what), due[what]);
    }

    private static void count() {
        c.promise(33);
        ElectingWind x = Checks.told("..;.#", "n3n0e9", "001o;015o;039h;028h");
        counts(x, 4, 3, 4, 5, 6, 19, 2, 0, 0);
        x.seen(0, 0);
        x.lose(2);
        counts(x, 4, 3, 4, 5, 6, 19, 2, 1, 1);
        x.sheet(0, 0, -1);
        x.sheet(0, 0, 4);
        c.due("a finding stays the latest", x.count(8), 5);
        x.type(0, ';');
        counts(x, 0, 3, 4, 6, 6, 19, 0, 1, 5);
        x.type(1, ';');
        counts(x, 0, 0, 4, 6, 7, 19, 0, 1, 5);
        x.type(2, ';');
        counts(x, 0, 0, 0, 6, 7, 20, 0, 1, 5);
        c.due("count(9)", x.count(9), BAD);
        c.due("count(-1)", x.count(-1), BAD);
    }

    private static void digestOf(ElectingWind x, long... parts) {
        long h = 17;
        for (long part : parts) h = 31 * h + part;
        c.due("digest()", x.digest(), h);
    }

    private static void digest() {
        c.promise(34);
        ElectingWind x = new ElectingWind();
        digestOf(x, 0, 0, 0, 0, 0, 0, 0, 0, -1, -1, -1, -1, -1, 0, 0, -1, -1, 0);
        x.type(0, 'x');
        x.type(1, 'n');
        x.seen(0, 0);
        x.lose(0);
        digestOf(x, 0, 0, 0, 1, 1, 0, 0, 1, 0, 1, -1, -1, -1, 0, 0, -1, -1, 0);
        x = Checks.told(".", "n3", "005o");
        int who = x.weather(7, 9, 0), many = x.weather(7, 9, 1);
        digestOf(x, 1, 1, 1, 1, 2, 4, 0, 0, -1, -1, -1, 0,
            0, 3, -1, 0, 40, 0, 3, 5,
            0, 5, 1, 1, -1, 0, 0, 0, -1, -1, -3, 3, 1022, 0, 1,
            -1, -1, 1, 0, -1, who, many);
        x = Checks.told(".#", "n9e2", "001o");
        who = x.weather(7, 9, 0);
        many = x.weather(7, 9, 1);
        x.seen(0, 8);
        // In minute 1 the wall keeps all wind from it, so it is returned; of 40 gusts in minute 1 another 27 would not.
        digestOf(x, 2, 2, 1, 2, 4, 4, 1, 1, -1, -1, -1, 0, 1,
            0, 9, -1, 0, 40, 0, 9, 0, 1,
            1, 2, -1, 0, 13, 0, 0, 0, 1,
            0, 1, 1, 1, 0, 1, 0, 0, 0, 0, -1, NONE, 1022, 0, 1,
            -1, -1, 2, 0, NONE, who, many);
        digestByCalls("...;#.#;...;.#.", "n9w5n0e7s8", "015o;049x;074h;032o;099o");
        digestByCalls("#.#;...;.#.;...", "e5s7n9n2", "013o;044x;072o;103h;115o");
        digestByCalls(".....;.....;..#..;.....;.....", "n2e3s4w5", "005o;064h;123x;189o");
    }

    /** In a scene in which hardly two answers are alike, from the answers themselves, in the order told. */
    private static void digestByCalls(String corner, String gusts, String candidates) {
        ElectingWind x = Checks.told(corner, gusts, candidates);
        x.seen(0, x.in(0) == NONE ? 8 : x.in(0));
        List<Long> all = new ArrayList<>();
        for (int what = 0; what <= 7; what++) all.add((long) x.count(what));
        for (int text = 0; text <= 2; text++) all.add((long) x.fault(text));
        for (int cell = 0; cell < x.count(0); cell++) all.add((long) x.cell(cell));
        for (int m = 0; m < x.count(1); m++) {
            int[] of = {x.gust(m, 0), x.gust(m, 1), x.in(m), x.ask(m), x.blew(m, NONE), x.blew(m, 0)};
            for (int v : of) all.add((long) v);
            for (int cell = 0; cell < x.count(0); cell++) all.add((long) x.wind(m, cell));
            for (int k = 0; k < x.count(2); k++) all.add((long) x.ribs(m, k));
        }
        for (int k = 0; k < x.count(2); k++) {
            int[] of = {x.candidate(k, 0), x.candidate(k, 1), x.candidate(k, 2), x.candidate(k, 3), x.overturns(k, 0),
                x.overturns(k, 1), x.overturns(k, 2), x.overturns(k, 3), x.stand(k, 0), x.stand(k, 1), x.shield(k),
                x.bribe(k), x.had(k)};
            for (int v : of) all.add((long) v);
            all.add(x.calm(5, k, 0));
            all.add(x.calm(5, k, 1));
        }
        int[] of = {x.first(0), x.first(1), x.lulls(), x.move(0), x.move(1), x.weather(7, 9, 0), x.weather(7, 9, 1)};
        for (int v : of) all.add((long) v);
        digestOf(x, all.stream().mapToLong(Long::longValue).toArray());
    }

    public static void main(String[] args) {
        sheet();
        lose();
        put();
        get();
        copy();
        write();
        count();
        digest();
        c.end();
    }
}
