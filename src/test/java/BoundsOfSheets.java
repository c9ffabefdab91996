import java.util.ArrayList;
import java.util.List;

/** Sentences on sheets, findings and refusals: the second inset paragraph, refusals, promises 27 to 34. */
final class BoundsOfSheets {
    private static final int TERMS = Sentences.TERMS, NONE = Sentences.NONE, BAD = Sentences.BAD, NOT = Sentences.NOT,
        FULL = Sentences.FULL, NULL = Sentences.NULL, INDEX = Sentences.INDEX, CAST = Sentences.CAST, STORE = Sentences.STORE,
        SIZE = Sentences.SIZE, LEAST = Integer.MIN_VALUE, MOST = Integer.MAX_VALUE;
    private static final long NO = Long.MIN_VALUE + 2;

    private final Sentences s;

    BoundsOfSheets(Sentences s) { this.s = s; }

    void all() {
        sheets();
        findings();
        eachFinding();
        order();
        changeNothing();
        longs();
        sheet();
        lose();
        put();
        get();
        copy();
        copyBeyond();
        write();
        count();
        digest();
    }

    private void items(ElectingWind x, int k, int form, int... due) {
        for (int i = 0; i < due.length; i++) s.due("get(" + k + ", " + form + ", " + i + ")", x.get(k, form, i), due[i]);
    }

    private static void fill(ElectingWind x, int k, int form, int... items) {
        x.sheet(k, form, items.length);
        for (int i = 0; i < items.length; i++) x.put(k, form, i, items[i]);
    }

    private void sheets() {
        s.says(TERMS, "SHEETS 0 .. 3 are LOST (at first) or a row of a FORM: 0 bytes, 1 shorts, 2 ints");
        ElectingWind x = new ElectingWind();
        for (int k = 0; k < 4; k++) {
            s.due("lose(" + k + ") at first", x.lose(k), NULL);
            for (int form = 0; form < 3; form++) {
                s.due("sheet(" + k + ", " + form + ", 1)", x.sheet(k, form, 1), 1);
                s.due("put(" + k + ", " + form + ", 0, 65536 + 257)", x.put(k, form, 0, 65536 + 257), 1);
                s.due("get(" + k + ", " + form + ", 0)", x.get(k, form, 0), new int[] {1, 257, 65793}[form]);
            }
        }
        s.due("sheet(4, 0, 1)", x.sheet(4, 0, 1), BAD);
        s.due("sheet(0, 3, 1)", x.sheet(0, 3, 1), BAD);
        fill(x, 0, 2, 7);
        fill(x, 1, 2, 8);
        s.due("get(0, 2, 0) beside another SHEET", x.get(0, 2, 0), 7);
        s.says(TERMS, "of 0 to 60 items (0 at first).");
        for (int n : new int[] {0, 1, 59, 60}) s.due("sheet(0, 2, " + n + ")", x.sheet(0, 2, n), n);
        for (int i = 0; i < 60; i++) {
            s.due("get(0, 2, " + i + ") at first", x.get(0, 2, i), 0);
            x.put(0, 2, i, i + 1);
        }
        s.due("get(0, 2, 59)", x.get(0, 2, 59), 60);
        s.due("get(0, 2, 60)", x.get(0, 2, 60), LEAST);
        x.sheet(0, 2, 60);
        for (int i = 0; i < 60; i++) s.due("get(0, 2, " + i + ") anew", x.get(0, 2, i), 0);
        s.due("sheet(0, 2, 61)", x.sheet(0, 2, 61), BAD);
        s.due("sheet(0, 2, -1)", x.sheet(0, 2, -1), SIZE);
    }

    private void findings() {
        s.says(TERMS, "FINDINGS (answers -10 less the number; they change nothing but count() 8)");
        ElectingWind x = new ElectingWind();
        fill(x, 0, 2, 1, 2);
        fill(x, 1, 1, 3, 4);
        long before = x.digest();
        int[] answers = {x.lose(2), x.count(8), x.put(0, 2, 2, 9), x.count(8), x.put(0, 1, 0, 9), x.count(8),
            x.copy(0, 0, 1, 0, 1), x.count(8), x.sheet(0, 0, -1), x.count(8), x.write(0, 2), x.read(2), x.count(8)};
        int[] due = {-11, 1, -12, 2, -13, 3, -14, 4, -15, 5, BAD, -11, 1};
        for (int k = 0; k < due.length; k++) s.due("answer " + k, answers[k], due[k]);
        s.due("digest()", x.digest(), before);
        items(x, 0, 2, 1, 2);
        items(x, 1, 1, 3, 4);
        s.due("count(8): the latest stays", x.count(8), 1);
    }

    private void eachFinding() {
        s.says(TERMS, "1 NULL: the SHEET is LOST");
        ElectingWind x = Checks.told(".", "n1", "");
        int[] lost = {x.lose(0), x.put(0, 0, 0, 1), x.copy(0, 0, 0, 0, 0), x.write(0, 0), x.read(0)};
        for (int k = 0; k < lost.length; k++) s.due("of one LOST, answer " + k, lost[k], NULL);
        s.due("get of one LOST", x.get(0, 0, 0), LEAST);
        s.due("count(8)", x.count(8), 1);
        s.says(TERMS, "2 INDEX: there is no such item");
        fill(x, 0, 2, 1, 2);
        for (int i : new int[] {-1, 2, LEAST, MOST}) s.due("put(0, 2, " + i + ", 1)", x.put(0, 2, i, 1), INDEX);
        s.due("put(0, 2, 1, 1)", x.put(0, 2, 1, 1), 1);
        s.due("count(8)", x.count(8), 2);
        s.says(TERMS, "3 CAST: it has another FORM");
        for (int has = 0; has < 3; has++) {
            x.sheet(0, has, 1);
            for (int as = 0; as < 3; as++) s.due("put(0, " + as + ", 0, 1)", x.put(0, as, 0, 1), as == has ? 1 : CAST);
            s.due("count(8)", x.count(8), 3);
        }
        s.says(TERMS, "4 STORE: unlike FORMS");
        for (int of = 0; of < 3; of++) {
            for (int to = 0; to < 3; to++) {
                x.sheet(0, of, 1);
                x.sheet(1, to, 1);
                s.due("copy(0, 0, 1, 0, 1) of " + of + " to " + to, x.copy(0, 0, 1, 0, 1), of == to ? 1 : STORE);
            }
            s.due("count(8)", x.count(8), 4);
        }
        s.says(TERMS, "5 SIZE: below 0.");
        for (int n : new int[] {-1, -60, LEAST}) s.due("sheet(0, 0, " + n + ")", x.sheet(0, 0, n), SIZE);
        s.due("count(8)", x.count(8), 5);
        s.due("sheet(0, 0, 0)", x.sheet(0, 0, 0), 0);
    }

    private void order() {
        s.says(TERMS, "Refusals, the first that fits, in the order told at each act: BAD -2 (a number not as told, no such thing), NULL, NOT -3 (as told), FULL -4, other FINDINGS.");
        ElectingWind x = Checks.told(".", "n1", "001h");
        fill(x, 0, 0, 1);
        fill(x, 1, 1, 1);
        for (int k = 0; k < 29; k++) x.type(0, '.');
        for (int k = 0; k < 8; k++) x.seen(0, 8);
        s.due("type: BAD, FULL", x.type(0, 256), BAD);
        s.due("type: FULL", x.type(0, 46), FULL);
        s.due("undo: NOT", new ElectingWind().undo(0), NOT);
        s.due("undo: BAD, NOT", new ElectingWind().undo(3), BAD);
        s.due("seen: BAD, FULL", x.seen(0, 9), BAD);
        s.due("seen: FULL", x.seen(0, 8), FULL);
        s.due("shield: NOT", x.shield(0), NOT);
        s.due("shield: BAD", x.shield(1), BAD);
        s.due("sheet: BAD, SIZE", x.sheet(4, 0, -1), BAD);
        s.due("sheet: BAD, SIZE", x.sheet(0, 3, -1), BAD);
        s.due("put: BAD, NULL", x.put(2, 3, 9, 1), BAD);
        s.due("put: NULL, CAST, INDEX", x.put(2, 1, 9, 1), NULL);
        s.due("put: CAST, INDEX", x.put(0, 1, 9, 1), CAST);
        s.due("put: INDEX", x.put(0, 0, 9, 1), INDEX);
        int[] getsLeast = {x.get(2, 3, 9), x.count(8), x.get(2, 1, 9), x.count(8), x.get(0, 1, 9), x.count(8), x.get(0, 0, 9), x.count(8)};
        int[] due = {LEAST, 2, LEAST, 1, LEAST, 3, LEAST, 2};
        for (int k = 0; k < due.length; k++) s.due("get and count(8), answer " + k, getsLeast[k], due[k]);
        s.due("copy: BAD, NULL", x.copy(2, 0, 4, 0, 1), BAD);
        s.due("copy: BAD, NULL", x.copy(-1, 0, 2, 0, 1), BAD);
        s.due("copy: NULL, INDEX", x.copy(2, -1, 0, 0, 1), NULL);
        s.due("copy: NULL, INDEX", x.copy(0, 0, 3, 0, -1), NULL);
        s.due("copy: STORE, INDEX", x.copy(0, 9, 1, 0, 1), STORE);
        s.due("copy: INDEX", x.copy(0, 9, 0, 0, 1), INDEX);
        s.due("write: BAD, NULL", x.write(1, 2), BAD);
        s.due("write: NULL", x.write(0, 2), NULL);
        s.due("read: BAD", x.read(4), BAD);
        s.due("read: NULL, though SEEN are FULL", x.read(2), NULL);
    }

    /** All that an object tells, but for the latest finding. */
    private static List<Long> state(ElectingWind x) {
        List<Long> all = new ArrayList<>();
        all.add(x.digest());
        for (int what = 0; what <= 7; what++) all.add((long) x.count(what));
        for (int k = 0; k < 3; k++) {
            for (int i = 0; i < 3; i++) all.add((long) x.get(k, k, i));
            all.add((long) x.put(k, k, 0, x.get(k, k, 0)));
        }
        return all;
    }

    private void changeNothing() {
        s.says(TERMS, "They change nothing (FINDINGS but count() 8).");
        ElectingWind x = Checks.told(".....;.#.#.;.....;.....;....#", "n3e4s5w6n7e8s9w1n2e3s4w5", "001o;042h;083x;124o;165h;206x;017o;028h");
        for (int k = 0; k < 8; k++) x.seen(k, x.in(k) == NONE ? 8 : x.in(k));
        for (int k = 0; k < 3; k++) fill(x, k, k, 1, 2, 3);
        List<Long> before = state(x);
        for (int call = 0; call < 42; call++) {
            s.due("refusal " + call, refusal(x, call) < 0 ? 1 : 0, 1);
            s.due("all as it was behind refusal " + call, state(x).equals(before) ? 1 : 0, 1);
        }
        s.due("lose(3)", x.lose(3), NULL);
        s.due("count(8)", x.count(8), 1);
        s.due("type: BAD", x.type(0, 256), BAD);
        s.due("type: FULL", x.type(0, 46), FULL);
        s.due("sheet: BAD", x.sheet(0, 0, 61), BAD);
        s.due("get: BAD", x.get(4, 0, 0), LEAST);
        s.due("count(8): no other refusal is a FINDING", x.count(8), 1);
    }

    private static long refusal(ElectingWind x, int call) {
        switch (call) {
            case 0: return x.type(0, 46);
            case 1: return x.type(1, 'n');
            case 2: return x.type(2, ';');
            case 3: return x.type(0, 256);
            case 4: return x.type(3, 46);
            case 5: return x.wipe(3);
            case 6: return x.undo(-1);
            case 7: return x.fault(3);
            case 8: return x.cell(25);
            case 9: return x.gust(12, 0);
            case 10: return x.candidate(8, 0);
            case 11: return x.wind(0, 25);
            case 12: return x.ribs(12, 0);
            case 13: return x.overturns(0, 4);
            case 14: return x.in(12);
            case 15: return x.first(2);
            case 16: return x.stand(8, 0);
            case 17: return x.shield(8);
            case 18: return x.move(2);
            case 19: return x.bribe(8);
            case 20: return x.seen(0, 8);
            case 21: return x.seen(12, 0);
            case 22: return x.read(3);
            case 23: return x.read(4);
            case 24: return x.blew(0, 40);
            case 25: return x.had(8);
            case 26: return x.ask(12);
            case 27: return x.calm(17, 0, 0);
            case 28: return x.weather(1, 13, 0);
            case 29: return x.sheet(0, 0, -1);
            case 30: return x.sheet(0, 1, 61);
            case 31: return x.sheet(1, 3, 2);
            case 32: return x.lose(3);
            case 33: return x.put(0, 0, 3, 9);
            case 34: return x.put(0, 1, 0, 9);
            case 35: return x.get(0, 1, 0);
            case 36: return x.copy(0, 0, 1, 0, 3);
            case 37: return x.copy(0, 0, 0, 1, 3);
            case 38: return x.copy(0, 2, 0, 0, 2);
            case 39: return x.copy(0, 0, 3, 0, 1);
            case 40: return x.write(12, 0);
            default: return x.write(0, 3);
        }
    }

    private void longs() {
        s.says(TERMS, "Where the answer is a long, a refusal -x is the least long and x more.");
        ElectingWind x = Checks.told(".", "n9", "001o");
        s.due("calm(17, 0, 0)", x.calm(17, 0, 0), NO);
        s.due("calm(8, 1, 0)", x.calm(8, 1, 0), NO);
        s.due("calm(8, 0, 2)", x.calm(8, 0, 2), -9223372036854775806L);
    }

    private void sheet() {
        s.says(27, "A SHEET is a new row of a FORM with n items: n.");
        ElectingWind x = new ElectingWind();
        s.due("sheet(3, 2, 2)", x.sheet(3, 2, 2), 2);
        x.put(3, 2, 1, 77);
        s.due("sheet(3, 0, 3), in place of one", x.sheet(3, 0, 3), 3);
        items(x, 3, 0, 0, 0, 0);
        s.due("get(3, 2, 1) of the one that was", x.get(3, 2, 1), LEAST);
        s.due("sheet(3, 0, 0)", x.sheet(3, 0, 0), 0);
        s.due("sheet(3, 0, 60)", x.sheet(3, 0, 60), 60);
        s.due("lose(3)", x.lose(3), 60);
        s.says(27, "BAD: SHEET, FORM, above 60; SIZE.");
        for (int k : new int[] {-1, 4, LEAST, MOST}) s.due("sheet(" + k + ", 0, 1)", x.sheet(k, 0, 1), BAD);
        for (int form : new int[] {-1, 3, LEAST, MOST}) s.due("sheet(0, " + form + ", 1)", x.sheet(0, form, 1), BAD);
        for (int n : new int[] {61, MOST}) s.due("sheet(0, 0, " + n + ")", x.sheet(0, 0, n), BAD);
        s.due("count(8)", x.count(8), 3);
        for (int n : new int[] {-1, LEAST}) s.due("sheet(0, 0, " + n + ")", x.sheet(0, 0, n), SIZE);
        s.due("lose(0), refused so far", x.lose(0), NULL);
    }

    private void lose() {
        s.says(28, "It is LOST: how many items it had.");
        ElectingWind x = new ElectingWind();
        for (int n : new int[] {0, 1, 60}) {
            x.sheet(0, 1, n);
            s.due("lose(0) of " + n + " items", x.lose(0), n);
            s.due("lose(0) again", x.lose(0), NULL);
        }
        x.sheet(0, 2, 1);
        x.sheet(3, 2, 1);
        x.lose(0);
        s.due("get(3, 2, 0) of another one", x.get(3, 2, 0), 0);
        s.says(28, "BAD; NULL.");
        for (int k : new int[] {-1, 4, LEAST, MOST}) s.due("lose(" + k + ")", x.lose(k), BAD);
        for (int k = 0; k < 3; k++) s.due("lose(" + k + ")", x.lose(k), NULL);
    }

    private void put() {
        s.says(29, "Item i, treated as of a FORM, becomes v (the lowest bits that it has, with its sign; by write(), too): 1.");
        ElectingWind x = new ElectingWind();
        int[] given = {0, 1, -1, 127, 128, -128, -129, 255, 256, 32767, 32768, -32768, -32769, 65535, 65536, LEAST, MOST};
        for (int form = 0; form < 3; form++) x.sheet(form, form, 3);
        for (int v : given) {
            for (int form = 0; form < 3; form++) s.due("put(" + form + ", " + form + ", 2, " + v + ")", x.put(form, form, 2, v), 1);
            items(x, 0, 0, 0, 0, (byte) v);
            items(x, 1, 1, 0, 0, (short) v);
            items(x, 2, 2, 0, 0, v);
        }
        x = Checks.told("#.#", "n9", "");
        for (int form = 0; form < 3; form++) {
            x.sheet(0, form, 2);
            x.put(0, form, 1, -1);
            x.write(0, 0);
            items(x, 0, form, 0, 12);
        }
        s.says(29, "BAD; NULL; CAST; INDEX.");
        x = new ElectingWind();
        x.sheet(0, 1, 60);
        for (int k : new int[] {-1, 4, LEAST, MOST}) s.due("put(" + k + ", 1, 0, 1)", x.put(k, 1, 0, 1), BAD);
        for (int form : new int[] {-1, 3, LEAST, MOST}) s.due("put(0, " + form + ", 0, 1)", x.put(0, form, 0, 1), BAD);
        s.due("put(3, 1, 0, 1)", x.put(3, 1, 0, 1), NULL);
        s.due("put(3, 1, 60, 1)", x.put(3, 1, 60, 1), NULL);
        s.due("put(0, 0, 0, 1)", x.put(0, 0, 0, 1), CAST);
        s.due("put(0, 2, 60, 1)", x.put(0, 2, 60, 1), CAST);
        for (int i : new int[] {-1, 60, LEAST, MOST}) s.due("put(0, 1, " + i + ", 1)", x.put(0, 1, i, 1), INDEX);
        s.due("put(0, 1, 59, 1)", x.put(0, 1, 59, 1), 1);
    }

    private void get() {
        s.says(30, "Item i of it.");
        ElectingWind x = new ElectingWind();
        fill(x, 0, 1, -5, 6, 7);
        items(x, 0, 1, -5, 6, 7);
        fill(x, 3, 2, LEAST, MOST);
        s.due("get(3, 2, 0): the least int itself", x.get(3, 2, 0), LEAST);
        s.due("get(3, 2, 1)", x.get(3, 2, 1), MOST);
        s.due("count(8)", x.count(8), 0);
        s.says(30, "BAD: the least int");
        for (int k : new int[] {-1, 4, LEAST, MOST}) s.due("get(" + k + ", 1, 0)", x.get(k, 1, 0), LEAST);
        for (int form : new int[] {-1, 3, LEAST, MOST}) s.due("get(0, " + form + ", 0)", x.get(0, form, 0), LEAST);
        s.due("count(8): BAD is no FINDING", x.count(8), 0);
        s.says(30, "so are NULL, CAST, INDEX (count() 8 tells).");
        s.due("get of one LOST", x.get(1, 1, 9), LEAST);
        s.due("count(8)", x.count(8), 1);
        s.due("get of another FORM", x.get(0, 2, 9), LEAST);
        s.due("count(8)", x.count(8), 3);
        for (int i : new int[] {3, -1, LEAST, MOST}) {
            x.get(1, 1, 0);
            s.due("get(0, 1, " + i + ")", x.get(0, 1, i), LEAST);
            s.due("count(8)", x.count(8), 2);
        }
    }

    private static ElectingWind two() {
        ElectingWind x = new ElectingWind();
        fill(x, 0, 2, 10, 11, 12, 13, 14);
        fill(x, 1, 2, 0, 0, 0);
        return x;
    }

    private void copy() {
        s.says(31, "n items of SHEET s, from i on, come to SHEET t (perhaps s, as they were), from j on: 1.");
        ElectingWind x = two();
        s.due("copy(0, 1, 1, 0, 3)", x.copy(0, 1, 1, 0, 3), 1);
        items(x, 1, 2, 11, 12, 13);
        items(x, 0, 2, 10, 11, 12, 13, 14);
        s.due("copy(0, 4, 1, 2, 1)", x.copy(0, 4, 1, 2, 1), 1);
        items(x, 1, 2, 11, 12, 14);
        s.due("copy(0, 0, 0, 1, 4), onward", x.copy(0, 0, 0, 1, 4), 1);
        items(x, 0, 2, 10, 10, 11, 12, 13);
        x = two();
        s.due("copy(0, 1, 0, 0, 4), back", x.copy(0, 1, 0, 0, 4), 1);
        items(x, 0, 2, 11, 12, 13, 14, 14);
        s.due("copy(0, 0, 0, 0, 5), the whole", x.copy(0, 0, 0, 0, 5), 1);
        items(x, 0, 2, 11, 12, 13, 14, 14);
        s.due("copy(0, 0, 1, 0, 0), nothing", x.copy(0, 0, 1, 0, 0), 1);
        items(x, 1, 2, 0, 0, 0);
        s.says(31, "BAD: the SHEETS; NULL: s, t; STORE");
        for (int k : new int[] {-1, 4, LEAST, MOST}) {
            s.due("copy(" + k + ", 0, 0, 0, 1)", x.copy(k, 0, 0, 0, 1), BAD);
            s.due("copy(0, 0, " + k + ", 0, 1)", x.copy(0, 0, k, 0, 1), BAD);
            s.due("copy(2, 0, " + k + ", 0, 1)", x.copy(2, 0, k, 0, 1), BAD);
        }
        s.due("copy(2, 0, 0, 0, 1)", x.copy(2, 0, 0, 0, 1), NULL);
        s.due("copy(0, 0, 2, 0, 1)", x.copy(0, 0, 2, 0, 1), NULL);
        s.due("copy(2, 0, 2, 0, 0)", x.copy(2, 0, 2, 0, 0), NULL);
        x.sheet(3, 0, 5);
        s.due("copy(0, 0, 3, 0, 1)", x.copy(0, 0, 3, 0, 1), STORE);
        s.due("copy(3, 0, 0, 0, 0)", x.copy(3, 0, 0, 0, 0), STORE);
    }

    private void copyBeyond() {
        s.says(31, "INDEX: i, j or n below 0, not so many there (of n 0, too: i or j above the size).");
        ElectingWind x = two();
        int[][] beyond = {{-1, 0, 1}, {0, -1, 1}, {0, 0, -1}, {-1, 0, 0}, {0, -1, 0}, {LEAST, 0, 1}, {0, LEAST, 1}, {0, 0, LEAST},
            {3, 0, 3}, {0, 1, 3}, {0, 0, 4}, {5, 0, 1}, {0, 3, 1}, {6, 0, 0}, {0, 4, 0}, {MOST, 0, 1}, {0, MOST, 1}, {1, 0, MOST},
            {0, 1, MOST}, {MOST, 0, MOST}, {MOST, MOST, 0}, {1, 1, LEAST}};
        for (int[] b : beyond) {
            s.due("copy(0, " + b[0] + ", 1, " + b[1] + ", " + b[2] + ")", x.copy(0, b[0], 1, b[1], b[2]), INDEX);
        }
        items(x, 1, 2, 0, 0, 0);
        int[][] within = {{5, 3, 0}, {0, 3, 0}, {5, 0, 0}, {2, 0, 3}, {4, 2, 1}, {0, 0, 3}};
        for (int[] w : within) {
            s.due("copy(0, " + w[0] + ", 1, " + w[1] + ", " + w[2] + ")", x.copy(0, w[0], 1, w[1], w[2]), 1);
        }
        x.sheet(2, 2, 0);
        s.due("copy(2, 0, 2, 0, 0)", x.copy(2, 0, 2, 0, 0), 1);
        s.due("copy(2, 0, 2, 0, 1)", x.copy(2, 0, 2, 0, 1), INDEX);
        s.due("copy(2, 1, 2, 0, 0)", x.copy(2, 1, 2, 0, 0), INDEX);
    }

    private void write() {
        s.says(32, "The WIND on CELLS 0 on in a MINUTE that there is comes to a SHEET from item 0 on, as many as there are items and CELLS: how many.");
        ElectingWind x = Checks.told("#;.;.;.", "n9s4", "038h");
        fill(x, 0, 2, 99, 99, 99, 99, 99, 99);
        s.due("write(0, 0), more items than CELLS", x.write(0, 0), 4);
        items(x, 0, 2, 0, 0, 4, 9, 99, 99);
        s.due("write(1, 0)", x.write(1, 0), 4);
        items(x, 0, 2, 0, 4, 2, 4, 99, 99);
        x.sheet(1, 0, 3);
        s.due("write(0, 1), fewer items", x.write(0, 1), 3);
        items(x, 1, 0, 0, 0, 4);
        x.sheet(1, 1, 4);
        s.due("write(0, 1), as many", x.write(0, 1), 4);
        items(x, 1, 1, 0, 0, 4, 9);
        x.sheet(1, 1, 0);
        s.due("write(0, 1), no items", x.write(0, 1), 0);
        x.wipe(0);
        s.due("write(0, 0), no CELLS", x.write(0, 0), 0);
        items(x, 0, 2, 0, 4, 2, 4, 99, 99);
        Checks.tell(x, 0, ".....;.....;.....;.....;.....");
        x.sheet(1, 2, 60);
        s.due("write(1, 1), all CELLS", x.write(1, 1), 25);
        s.due("get(1, 2, 24)", x.get(1, 2, 24), 4);
        s.due("get(1, 2, 25)", x.get(1, 2, 25), 0);
        s.says(32, "BAD; NULL.");
        for (int m : new int[] {-1, 2, 12, LEAST, MOST}) s.due("write(" + m + ", 0)", x.write(m, 0), BAD);
        for (int k : new int[] {-1, 4, LEAST, MOST}) s.due("write(0, " + k + ")", x.write(0, k), BAD);
        s.due("write(2, 3)", x.write(2, 3), BAD);
        s.due("write(0, 3)", x.write(0, 3), NULL);
        s.due("write(0, 0) without MINUTES", new ElectingWind().write(0, 0), BAD);
    }

    private void counts(ElectingWind x, int... due) {
        for (int what = 0; what < due.length; what++) s.due("count(" + what + ")", x.count(what), due[what]);
    }

    private void count() {
        s.says(33, "0 CELLS, 1 MINUTES, 2 CANDIDATES, 3 to 5 bytes of texts, 6 umbrellas that turn, 7 SEEN");
        ElectingWind x = Checks.told("..;.#", "n3n0e9", "001o;015o;039h;028h");
        counts(x, 4, 3, 4, 5, 6, 19, 2, 0);
        x.seen(0, 0);
        x.type(0, ';');
        counts(x, 0, 3, 4, 6, 6, 19, 0, 1);
        x.type(1, ';');
        x.type(2, ';');
        counts(x, 0, 0, 0, 6, 7, 20, 0, 1);
        x = Checks.told(".....;.....;.....;.....;.....", "n9n9n9n9n9n9n9n9n9n9n9n9", "001x;011x;021x;031x;041x;051x;061x;241x");
        for (int k = 0; k < 8; k++) x.seen(0, 8);
        counts(x, 25, 12, 8, 29, 24, 39, 8, 8);
        s.due("count(6), one RETURNED", Checks.told(".", "n9n0", "001o").count(6), 1);
        s.says(33, "8 the number of the latest FINDING (0 before any).");
        s.due("count(8)", x.count(8), 0);
        x.sheet(0, 0, -1);
        s.due("count(8)", x.count(8), 5);
        x.lose(0);
        s.due("count(8)", x.count(8), 1);
        x.sheet(0, 0, 4);
        x.put(0, 0, 0, 1);
        s.due("count(8), the latest", x.count(8), 1);
        s.says(33, "BAD.");
        for (int what : new int[] {-1, 9, LEAST, MOST}) s.due("count(" + what + ")", x.count(what), BAD);
    }

    private void digestOf(ElectingWind x, long... parts) {
        long h = 17;
        for (long part : parts) h = 31 * h + part;
        s.due("digest()", x.digest(), h);
    }

    private void digest() {
        s.says(34, "h is 17; h becomes 31 h and each of: count() 0 to 7; of texts fault()");
        digestOf(new ElectingWind(), 0, 0, 0, 0, 0, 0, 0, 0, -1, -1, -1, -1, -1, 0, 0, -1, -1, 0);
        ElectingWind x = Checks.told("..;", "n1e", "0");
        for (int k = 0; k < 3; k++) x.seen(0, 0);
        x.lose(0);
        digestOf(x, 0, 0, 0, 3, 3, 1, 0, 3, 3, 3, 1, -1, -1, 0, 0, -1, -1, 0);
        s.says(34, "of CELLS cell(); of MINUTES gust() 0, 1, in(), ask(), blew(it, NONE), blew(it, 0), of CELLS wind(the MINUTE, it), of CANDIDATES ribs(the MINUTE, it)");
        digestOf(Checks.told(".#", "", ""), 2, 0, 0, 2, 0, 0, 0, 0, -1, -1, -1, 0, 1, -1, -1, 0, 0, -1, -1, 0);
        digestOf(Checks.told(".#", "s7w4", ""), 2, 2, 0, 2, 4, 0, 0, 0, -1, -1, -1, 0, 1,
            2, 7, -1, 0, 40, 0, 7, 0, 3, 4, -1, 0, 40, 0, 4, 0, -1, -1, 2, 0, -1, -1, 0);
        x = Checks.told(".", "n3e5", "205o");
        x.seen(0, 0);
        digestOf(x, 1, 2, 1, 1, 4, 4, 0, 1, -1, -1, -1, 0, 0, 3, -1, 0, 0, -1, 3, 5, 1, 5, -1, 0, 0, -1, 5, 5,
            20, 5, 1, 0, -1, 0, 0, 0, -1, -1, -3, -1, 0, 0, 1, -1, -1, 2, 0, -1, -1, 0);
        s.says(34, "of CANDIDATES candidate() 0 to 3, overturns() 0 to 3, stand() 0, 1, shield(), bribe(), had(), calm(5, it), above, below; first() 0, 1, lulls(), move() 0, 1, weather(7, 9, 0 and 1); as longs that wrap.");
        digestOf(Checks.told("#", "", "004x"), 1, 0, 1, 1, 0, 4, 0, 0, -1, -1, -1, 1,
            0, 4, 2, 0, -1, 0, 0, 0, -1, -1, -3, -1, 1022, 0, 1, -1, -1, 0, 0, -1, -1, 0);
        x = Checks.told(".#", "n9e2", "001o");
        x.seen(0, 8);
        int who = x.weather(7, 9, 0), many = x.weather(7, 9, 1);
        digestOf(x, 2, 2, 1, 2, 4, 4, 1, 1, -1, -1, -1, 0, 1, 0, 9, -1, 0, 40, 0, 9, 0, 1, 1, 2, -1, 0, 13, 0, 0, 0, 1,
            0, 1, 1, 1, 0, 1, 0, 0, 0, 0, -1, -1, 1022, 0, 1, -1, -1, 2, 0, -1, who, many);
        for (String[] t : new String[][] {{"...;#.#;...;.#.", "n9w5n0e7s8", "015o;049x;074h;032o;099o"},
            {"#.#;...;.#.;...", "e5s7n9n2", "013o;044x;072o;103h;115o"}}) {
            x = Checks.told(t[0], t[1], t[2]);
            x.seen(0, x.in(0) == NONE ? 8 : x.in(0));
            digestOf(x, parts(x));
        }
    }

    /** The answers themselves, in the order told. */
    private static long[] parts(ElectingWind x) {
        List<Long> all = new ArrayList<>();
        for (int what = 0; what <= 7; what++) all.add((long) x.count(what));
        for (int text = 0; text <= 2; text++) all.add((long) x.fault(text));
        for (int cell = 0; cell < x.count(0); cell++) all.add((long) x.cell(cell));
        for (int m = 0; m < x.count(1); m++) {
            int[] of = {x.gust(m, 0), x.gust(m, 1), x.in(m), x.ask(m), x.blew(m, NONE), x.blew(m, 0)};
            for (int v : of) all.add((long) v);
            for (int cell = 0; cell < x.count(0); cell++) all.add((long) x.wind(m, cell));
            for (int k = 0; k < x.count(2); k++) all.add((long) x.ribs(m, k));
        }
        for (int k = 0; k < x.count(2); k++) {
            int[] of = {x.candidate(k, 0), x.candidate(k, 1), x.candidate(k, 2), x.candidate(k, 3), x.overturns(k, 0), x.overturns(k, 1),
                x.overturns(k, 2), x.overturns(k, 3), x.stand(k, 0), x.stand(k, 1), x.shield(k), x.bribe(k), x.had(k)};
            for (int v : of) all.add((long) v);
            all.add(x.calm(5, k, 0));
            all.add(x.calm(5, k, 1));
        }
        int[] of = {x.first(0), x.first(1), x.lulls(), x.move(0), x.move(1), x.weather(7, 9, 0), x.weather(7, 9, 1)};
        for (int v : of) all.add((long) v);
        return all.stream().mapToLong(Long::longValue).toArray();
    }
}
