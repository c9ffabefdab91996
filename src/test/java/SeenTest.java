/** Promises 19 to 26: what was seen, what comes of it, calms, weather. */
public final class SeenTest {
    private static final int NONE = ElectingWind.NONE, BAD = ElectingWind.BAD, FULL = ElectingWind.FULL;
    private static final long NO = Long.MIN_VALUE + 2;
    private static final Checks c = new Checks("SeenTest");

    private static void seen() {
        c.promise(19);
        ElectingWind x = new ElectingWind();
        c.due("seen(12, 0)", x.seen(12, 0), BAD);
        c.due("seen(-1, 0)", x.seen(-1, 0), BAD);
        c.due("seen(0, 9)", x.seen(0, 9), BAD);
        c.due("seen(0, -1)", x.seen(0, -1), BAD);
        c.due("count(7) behind refusals", x.count(7), 0);
        for (int k = 1; k <= 8; k++) c.due("seen", x.seen(k == 1 ? 11 : 0, k == 2 ? 0 : 8), k);
        c.due("seen, the ninth", x.seen(0, 8), FULL);
        c.due("seen BAD ahead of FULL", x.seen(12, 8), BAD);
        c.due("count(7)", x.count(7), 8);
    }

    private static void forget() {
        c.promise(20);
        ElectingWind x = Checks.told(".", "n3", "005o");
        c.due("forget() of none", x.forget(), 0);
        x.seen(0, 0);
        x.seen(0, 8);
        c.due("blew(0, NONE), unlike ones seen", x.blew(0, NONE), 0);
        c.due("forget()", x.forget(), 2);
        c.due("count(7)", x.count(7), 0);
        c.due("blew(0, NONE) behind forget()", x.blew(0, NONE), 40);
        c.due("had(0) behind forget()", x.had(0), 1022);
    }

    private static void read() {
        c.promise(21);
        ElectingWind x = Checks.told(".", "n3", "005o");
        c.due("read(-1)", x.read(-1), BAD);
        c.due("read(4)", x.read(4), BAD);
        c.due("read(0) of one LOST", x.read(0), -11);
        c.due("count(8)", x.count(8), 1);
        x.sheet(0, 0, 0);
        c.due("read of no items", x.read(0), 0);
        x.sheet(0, 0, 1);
        c.due("read of one item", x.read(0), 0);
        x.sheet(0, 1, 5);
        x.put(0, 1, 1, 8);
        x.put(0, 1, 2, 11);
        x.put(0, 1, 3, 8);
        x.put(0, 1, 4, 7);
        x.seen(0, 8);
        c.due("read of five items", x.read(0), 2);
        c.due("count(7)", x.count(7), 3);
        x.forget();
        x.sheet(1, 2, 6);
        x.put(1, 2, 1, 8);
        x.put(1, 2, 2, 12);
        c.due("read up to one BAD", x.read(1), 1);
        c.due("count(7) of one BAD", x.count(7), 1);
        c.due("what was read counts", x.blew(0, NONE), 24);
        x.put(1, 2, 0, -1);
        c.due("read: the first is BAD", x.read(1), 0);
        x.forget();
        readInPairs();
        x.sheet(2, 0, 60);
        c.due("read up to FULL", x.read(2), 8);
        c.due("read when FULL", x.read(2), 0);
        c.due("read leaves the SHEET", x.lose(2), 60);
    }

    /** Behind minute 0 nobody is in, behind 1 the candidate 0, behind 2 the candidate 1, unless minute 3 is calm. */
    private static void readInPairs() {
        int[][] all = {{0, 8, 1, 0, 2, 1}, {0, 8, 1, 0, 2, 0}, {0, 8, 1, 8, 2, 1}, {0, 8, 2, 1, 1, 0}};
        int[] gusts = {36, 4, 0, 36};
        int[] ribs = {2 + 4, 0, 64 + 128 + 256 + 512, 2 + 4};
        for (int k = 0; k < all.length; k++) {
            ElectingWind x = Checks.told("..", "n0n3n9n9", "001o;015o");
            x.sheet(0, 2, 6);
            for (int i = 0; i < 6; i++) x.put(0, 2, i, all[k][i]);
            c.due("read(0) of " + k, x.read(0), 3);
            c.due("blew(3, NONE) of " + k, x.blew(3, NONE), gusts[k]);
            c.due("had(0) of " + k, x.had(0), ribs[k]);
        }
    }

    private static void blew() {
        c.promise(22);
        ElectingWind x = Checks.told(".", "n3", "005o");
        c.due("blew(0, NONE), none seen", x.blew(0, NONE), 40);
        for (int i = 0; i < 40; i++) c.due("blew(0, " + i + ")", x.blew(0, i), i);
        x.seen(0, 0);
        c.due("blew(0, NONE)", x.blew(0, NONE), 16);
        for (int i = 0; i < 16; i++) c.due("blew(0, " + i + ")", x.blew(0, i), 10 * (i / 4) + 6 + i % 4);
        c.due("blew(0, 16)", x.blew(0, 16), NONE);
        c.due("blew(0, 39)", x.blew(0, 39), NONE);
        c.due("blew leaves the gust", x.gust(0, 1), 3);
        x.forget();
        x.seen(0, 8);
        c.due("blew(0, NONE), nobody", x.blew(0, NONE), 24);
        c.due("blew(0, 6), nobody", x.blew(0, 6), 10);
        x.forget();
        x.seen(0, 1);
        c.due("blew(0, NONE), no such candidate", x.blew(0, NONE), 0);
        c.due("blew(0, 0), no such candidate", x.blew(0, 0), NONE);
        x.forget();
        x.seen(1, 8);
        c.due("blew(0, NONE), nobody in no such minute", x.blew(0, NONE), 0);
        Checks.tell(x, 1, "n3n3");
        c.due("blew(0, NONE), when there is that minute", x.blew(0, NONE), 24);
        x = Checks.told("#;.", "n9", "011o");
        x.seen(0, 0);
        c.due("blew from where there is no wall", x.blew(0, NONE), 24);
        c.due("blew: the first", x.blew(0, 0), 12);
        Checks.tell(x, 1, "n9s9");
        c.due("blew ahead of a next minute", x.blew(0, NONE), 24);
        Checks.tell(x, 1, "n9n9");
        c.due("blew: returned in the next minute", x.blew(0, NONE), 0);
        c.due("blew(0, -2)", x.blew(0, -2), BAD);
        c.due("blew(0, 40)", x.blew(0, 40), BAD);
        c.due("blew(2, 0)", x.blew(2, 0), BAD);
        c.due("blew(-1, 0)", x.blew(-1, 0), BAD);
    }

    private static void had() {
        c.promise(23);
        ElectingWind x = Checks.told(".", "n3", "005o");
        c.due("had(0), none seen", x.had(0), 1022);
        x.seen(0, 0);
        c.due("had(0)", x.had(0), 6);
        x.forget();
        x.seen(0, 8);
        c.due("had(0), nobody", x.had(0), 1016);
        x.forget();
        x.seen(1, 8);
        c.due("had(0), no such minute", x.had(0), 0);
        x = Checks.told("..", "n3n3", "009o;012o");
        x.seen(1, 0);
        c.due("had(0) beside another one", x.had(0), 14);
        c.due("had(1) beside another one", x.had(1), 0);
        c.due("had leaves the ribs", x.candidate(0, 1), 9);
        c.due("had(2)", x.had(2), BAD);
        c.due("had(-1)", x.had(-1), BAD);
        c.due("had of one nowhere", Checks.told("", "n3", "005o").had(0), 1022);
    }

    private static void ask() {
        c.promise(24);
        ElectingWind x = Checks.told(".", "n0n5", "005o");
        c.due("ask(0)", x.ask(0), 1);
        c.due("ask(1)", x.ask(1), 1);
        x = Checks.told(".", "n0n3", "005o");
        c.due("ask(0), of like ones the least", x.ask(0), 0);
        c.due("ask(1)", x.ask(1), 1);
        x = Checks.told(".", "n0n5n0", "005o");
        // behind minute 2 as many are returned as without any gust in minute 1
        c.due("ask(0) of three", x.ask(0), 0);
        c.due("ask(1) of three", x.ask(1), 0);
        c.due("ask(2) of three", x.ask(2), 2);
        x.seen(0, 8);
        c.due("ask(2), nobody seen behind 0", x.ask(2), 2);
        x.seen(0, 0);
        c.due("ask, when nothing may have blown", x.ask(2), 0);
        c.due("ask(3)", x.ask(3), BAD);
        c.due("ask(-1)", x.ask(-1), BAD);
        c.due("ask(0) without minutes", Checks.told(".", "", "005o").ask(0), BAD);
    }

    private static void chance(ElectingWind x, int by, int who, long above, long below) {
        c.due("calm(" + by + ", " + who + ", 0)", x.calm(by, who, 0), above);
        c.due("calm(" + by + ", " + who + ", 1)", x.calm(by, who, 1), below);
    }

    private static void calm() {
        c.promise(25);
        ElectingWind x = Checks.told(".", "n9", "005o");
        long[][] due = {{0, 1}, {1, 16}, {1, 8}, {3, 16}, {1, 4}, {5, 16}, {3, 8}, {7, 16}, {1, 2}, {9, 16}, {5, 8},
            {11, 16}, {3, 4}, {13, 16}, {7, 8}, {15, 16}, {1, 1}};
        for (int by = 0; by <= 16; by++) chance(x, by, 0, due[by][0], due[by][1]);
        // both blow, or the second alone: a calm behind a gust returns the umbrella
        chance(Checks.told(".", "n9n9", "005o"), 4, 0, 1, 4);
        // the first wears it by one rib, else the second cannot turn it
        chance(Checks.told(".", "n5n5", "005o"), 4, 0, 1, 16);
        chance(Checks.told(".", "n5n5", "005o"), 3, 0, 9, 256);
        ElectingWind two = Checks.told("..", "n3n9", "002o;015o");
        // 1 is in when the second blows; 0 turns in the second alone when the first does not, and has fewer ribs
        chance(two, 8, 0, 1, 4);
        chance(two, 8, 1, 1, 4);
        ElectingWind twelve = Checks.told(".", "n9n9n9n9n9n9n9n9n9n9n9n9", "001o");
        chance(twelve, 5, 0, 5, 16);
        chance(Checks.told(".", "n2n2n2n2n2n2n2n2n2n2n2n2", "009x"), 15, 0, 0, 1);
        // each gust but the last takes one rib, and the last turns it: only if all nine blow
        chance(Checks.told(".", "n9n8n7n6n5n4n3n2n2", "009o"), 1, 0, 1, 1L << 36);
        chance(Checks.told(".", "n9n8n7n6n5n4n3n2n2", "009o"), 3, 0, 19683, 1L << 36);
        chance(Checks.told(".", "", "001o"), 8, 0, 0, 1);
        chance(Checks.told("", "n9", "001o"), 8, 0, 0, 1);
        chance(two, 16, 1, 1, 1);
        Checks.tell(two, 1, "n3n3");
        chance(two, 0, 1, 0, 1);
        chance(two, 16, 1, 0, 1);
        c.due("calm leaves the gusts", twelve.gust(11, 1), 9);
        c.due("calm(17, 0, 0)", x.calm(17, 0, 0), NO);
        c.due("calm(-1, 0, 0)", x.calm(-1, 0, 0), NO);
        c.due("calm(8, 1, 0)", x.calm(8, 1, 0), NO);
        c.due("calm(8, -1, 0)", x.calm(8, -1, 0), NO);
        c.due("calm(8, 0, 2)", x.calm(8, 0, 2), NO);
        c.due("calm(8, 0, -1)", x.calm(8, 0, -1), NO);
        chance(x, 16, 0, 1, 1);
        Checks.tell(x, 2, "009o");
        chance(x, 16, 0, 0, 1);
        Checks.tell(x, 1, "n9n9");
        chance(x, 16, 0, 1, 1);
        Checks.tell(x, 0, "#;.");
        chance(x, 16, 0, 0, 1);
    }

    private static void weather() {
        c.promise(26);
        // Of SEED 1 the upper bits are 16838, 38526: the first gust is s6.
        ElectingWind x = Checks.told(".", "", "005o");
        c.due("weather(1, 1, 0)", x.weather(1, 1, 0), 0);
        c.due("weather(1, 1, 1)", x.weather(1, 1, 1), 1);
        x = Checks.told(".", "n9n9", "006o");
        c.due("weather(1, 1, 0), as many as the ribs", x.weather(1, 1, 0), NONE);
        c.due("weather(1, 1, 1), as many as the ribs", x.weather(1, 1, 1), 0);
        x = Checks.told(".;#", "", "001x");
        c.due("weather(1, 1, 1), from the wall", x.weather(1, 1, 1), 0);
        c.due("weather leaves the minutes", x.count(1), 0);
        for (int seed : new int[] {-1, Integer.MIN_VALUE, Integer.MAX_VALUE, 0, 7}) asLots(seed);
        c.due("weather(1, 0, 0)", x.weather(1, 0, 0), BAD);
        c.due("weather(1, 13, 0)", x.weather(1, 13, 0), BAD);
        c.due("weather(1, -1, 0)", x.weather(1, -1, 0), BAD);
        c.due("weather(1, 1, 2)", x.weather(1, 1, 2), BAD);
        c.due("weather(1, 1, -1)", x.weather(1, 1, -1), BAD);
        x = new ElectingWind();
        c.due("weather(1, 12, 0) of nothing", x.weather(1, 12, 0), NONE);
        c.due("weather(1, 12, 1) of nothing", x.weather(1, 12, 1), 0);
    }

    /** The same gusts, told as a text: who is in, and how many umbrellas turn. */
    private static void asLots(int seed) {
        String corner = ".#.;...;#.#", candidates = "003o;014h;036x;049o;072o;058h";
        StringBuilder gusts = new StringBuilder();
        long lots = seed & 0xffffffffL;
        for (int n = 1; n <= 12; n++) {
            lots = (lots * 1103515245L + 12345L) & 0xffffffffL;
            gusts.append("nesw".charAt((int) ((lots >> 16) % 4)));
            lots = (lots * 1103515245L + 12345L) & 0xffffffffL;
            gusts.append((char) ('0' + (lots >> 16) % 10));
            ElectingWind x = Checks.told(corner, gusts.toString(), candidates);
            c.due("weather(" + seed + ", " + n + ", 0)", x.weather(seed, n, 0), x.in(n - 1));
            c.due("weather(" + seed + ", " + n + ", 1)", x.weather(seed, n, 1), x.count(6));
        }
    }

    public static void main(String[] args) {
        seen();
        forget();
        read();
        blew();
        had();
        ask();
        calm();
        weather();
        c.end();
    }
}
