/** Sentences on what was seen, calms and weather: fractions, lots, Terms 4, promises 19 to 26. */
final class BoundsOfSeen {
    private static final int TERMS = Sentences.TERMS, NONE = Sentences.NONE, BAD = Sentences.BAD, FULL = Sentences.FULL;
    private static final long NO = Long.MIN_VALUE + 2;
    private static final String TWELVE = "n9n9n9n9n9n9n9n9n9n9n9n9";

    private final Sentences s;

    BoundsOfSeen(Sentences s) { this.s = s; }

    void all() {
        fractions();
        lots();
        whatIsSeen();
        whatBlew();
        whatOneHad();
        whatToAsk();
        calms();
        weatherBySeed();
        seen();
        forget();
        read();
        blew();
        had();
        ask();
        calm();
        weather();
    }

    private void chance(String corner, String gusts, String candidates, int by, int who, long above, long below) {
        ElectingWind x = Checks.told(corner, gusts, candidates);
        String of = corner + " " + gusts + " " + candidates;
        s.due("calm(" + by + ", " + who + ", 0) in " + of, x.calm(by, who, 0), above);
        s.due("calm(" + by + ", " + who + ", 1) in " + of, x.calm(by, who, 1), below);
    }

    private void weathers(String corner, String candidates, int seed, int n, int who, int many) {
        ElectingWind x = Checks.told(corner, "", candidates);
        s.due("weather(" + seed + ", " + n + ", 0) in " + corner + " " + candidates, x.weather(seed, n, 0), who);
        s.due("weather(" + seed + ", " + n + ", 1) in " + corner + " " + candidates, x.weather(seed, n, 1), many);
    }

    /** The gusts of a minute that may have blown so, all of them. */
    private void gusts(ElectingWind x, int minute, int... due) {
        s.due("blew(" + minute + ", NONE)", x.blew(minute, NONE), due.length);
        for (int i = 0; i < due.length; i++) s.due("blew(" + minute + ", " + i + ")", x.blew(minute, i), due[i]);
        if (due.length < 40) s.due("blew(" + minute + ", " + due.length + ")", x.blew(minute, due.length), NONE);
    }

    /** The gusts from anywhere with forces from the one to the other. */
    private static int[] forces(int least, int most) {
        int[] all = new int[4 * (most - least + 1)];
        for (int k = 0; k < all.length; k++) all[k] = 10 * (k / (most - least + 1)) + least + k % (most - least + 1);
        return all;
    }

    private void fractions() {
        s.says(TERMS, "FRACTIONS are told in lowest terms, above and below (0 by 1).");
        long[][] due = {{0, 1}, {1, 16}, {1, 8}, {3, 16}, {1, 4}, {5, 16}, {3, 8}, {7, 16}, {1, 2}, {9, 16}, {5, 8},
            {11, 16}, {3, 4}, {13, 16}, {7, 8}, {15, 16}, {1, 1}};
        for (int by = 0; by <= 16; by++) chance(".", "n9", "005o", by, 0, due[by][0], due[by][1]);
        chance(".", "n1", "005o", 8, 0, 0, 1);
        chance(".", "n9n8n7n6n5n4n3n2n2", "009o", 1, 0, 1, 1L << 36);
        chance(".", "n9n8n7n6n5n4n3n2n2", "009o", 6, 0, 19683, 1L << 27);
        chance(".", TWELVE, "001o", 5, 0, 5, 16);
    }

    private void lots() {
        s.says(TERMS, "LOTS of m: SEED becomes 1103515245 SEED and 12345, as ints that wrap");
        // SEED 2: the upper 16 bits are 33676 and 22817, so from the north, 7.
        weathers(".", "006o", 2, 1, 0, 1);
        weathers(".", "007o", 2, 1, NONE, 0);
        weathers("#;.", "011x", 2, 1, NONE, 0);
        weathers(".;#", "001x", 2, 1, 0, 1);
        for (int seed : new int[] {1, 7, Integer.MAX_VALUE, 123456789}) likeText(seed);
        s.says(TERMS, "its upper 16 bits as a number from 0 on, modulo m.");
        // SEED 0: 0 and 54236, so from the north, 6; SEED 3: 50515 and 7107, so from the west, 7.
        weathers(".", "005o", 0, 1, 0, 1);
        weathers(".", "006o", 0, 1, NONE, 0);
        weathers("#;.", "011x", 0, 1, NONE, 0);
        weathers(".", "006o", 3, 1, 0, 1);
        weathers(".", "007o", 3, 1, NONE, 0);
        weathers("#.", "011x", 3, 1, NONE, 0);
        weathers(".#", "001x", 3, 1, 0, 1);
        for (int seed : new int[] {-1, -2, -7, Integer.MIN_VALUE}) likeText(seed);
    }

    /** The same gusts told as a text. */
    private void likeText(int seed) {
        String corner = ".#.;...;#.#", candidates = "003o;014h;036x;049o;072o;058h";
        StringBuilder gusts = new StringBuilder();
        long lots = seed & 0xffffffffL;
        for (int n = 1; n <= 12; n++) {
            lots = (lots * 1103515245L + 12345L) & 0xffffffffL;
            gusts.append("nesw".charAt((int) ((lots >> 16) % 4)));
            lots = (lots * 1103515245L + 12345L) & 0xffffffffL;
            gusts.append((char) ('0' + (lots >> 16) % 10));
            ElectingWind x = Checks.told(corner, gusts.toString(), candidates);
            weathers(corner, candidates, seed, n, x.in(n - 1), x.count(6));
        }
    }

    private void whatIsSeen() {
        s.says(TERMS, "SEEN, 8 at most: behind a MINUTE (0 to 11) a CANDIDATE (0 to 7; 8: nobody) was IN");
        ElectingWind x = new ElectingWind();
        for (int k = 1; k <= 8; k++) s.due("seen, number " + k, x.seen(12 - k, k - 1), k);
        s.due("seen, the ninth", x.seen(0, 8), FULL);
        x.forget();
        s.due("seen(0, 8)", x.seen(0, 8), 1);
        s.due("seen(11, 7)", x.seen(11, 7), 2);
        s.due("seen(12, 7)", x.seen(12, 7), BAD);
        s.due("seen(11, 9)", x.seen(11, 9), BAD);
        x = Checks.told(".", "n3", "005o");
        x.seen(0, 8);
        gusts(x, 0, forces(0, 5));
        x = Checks.told("", TWELVE, "");
        x.seen(11, 8);
        gusts(x, 11, forces(0, 9));
        x = Checks.told(".....;.....", "n1", "001h;011h;021h;031h;041h;051h;061h;071o");
        x.seen(0, 7);
        gusts(x, 0, 12, 13, 22, 23);
        s.says(TERMS, "of a MINUTE that there is not nothing ever comes out so, 8 neither.");
        x = Checks.told(".", "n9", "005o");
        x.seen(1, 8);
        gusts(x, 0);
        s.due("had(0)", x.had(0), 0);
        x.forget();
        x.seen(1, 0);
        gusts(x, 0);
        x.forget();
        x.seen(0, 0);
        gusts(x, 0, forces(6, 9));
        Checks.tell(x, 1, "n9n9");
        x.forget();
        x.seen(1, 8);
        gusts(x, 1, 0, 10, 20, 30);
    }

    private void whatBlew() {
        s.says(TERMS, "BLEW of a MINUTE: GUSTS (10 times from where, 0 n, 1 e, 2 s, 3 w, and FORCE)");
        ElectingWind x = Checks.told("#.", "n9", "015o");
        x.seen(0, 0);
        gusts(x, 0, 6, 7, 8, 9, 16, 17, 18, 19, 26, 27, 28, 29);
        Checks.tell(x, 0, ".#");
        Checks.tell(x, 2, "005o");
        gusts(x, 0, 6, 7, 8, 9, 26, 27, 28, 29, 36, 37, 38, 39);
        Checks.tell(x, 0, "#;.");
        Checks.tell(x, 2, "015o");
        gusts(x, 0, 16, 17, 18, 19, 26, 27, 28, 29, 36, 37, 38, 39);
        Checks.tell(x, 0, ".;#");
        Checks.tell(x, 2, "005o");
        gusts(x, 0, 6, 7, 8, 9, 16, 17, 18, 19, 36, 37, 38, 39);
        s.says(TERMS, "in place of its own, by which all that was SEEN comes out so: how many; the i-th; NONE.");
        x = Checks.told(".", "n0n9n9", "005o");
        for (int m = 0; m < 3; m++) gusts(x, m, forces(0, 9));
        x.seen(0, 8);
        x.seen(1, 0);
        gusts(x, 0, forces(0, 5));
        gusts(x, 1, forces(6, 9));
        gusts(x, 2, forces(1, 9));
        s.due("gust(1, 1) behind it all", x.gust(1, 1), 9);
        x.seen(2, 8);
        for (int m = 0; m < 3; m++) gusts(x, m);
    }

    private void whatOneHad() {
        s.says(TERMS, "HAD of a CANDIDATE: RIBS (1 to 9), in place of its own, likewise, as bits.");
        ElectingWind x = Checks.told(".", "n3n3", "005o");
        s.due("had(0), none SEEN", x.had(0), 1022);
        x.seen(0, 0);
        s.due("had(0), one SEEN", x.had(0), 2 + 4);
        x.seen(1, 0);
        s.due("had(0), two SEEN", x.had(0), 2 + 4);
        x.forget();
        x.seen(0, 8);
        s.due("had(0), nobody SEEN", x.had(0), 1022 - 2 - 4);
        x.seen(1, 0);
        s.due("had(0), nobody, then it SEEN", x.had(0), 8);
        x.seen(1, 8);
        s.due("had(0), both SEEN", x.had(0), 0);
        s.due("candidate(0, 1) behind it all", x.candidate(0, 1), 5);
        x = Checks.told(".", "n9", "001x");
        x.seen(0, 0);
        s.due("had(0), 9 and fewer", x.had(0), 1022);
        x = Checks.told("..", "n3n3", "009o;012o");
        x.seen(1, 0);
        s.due("had(0) beside another one", x.had(0), 2 + 4 + 8);
        s.due("had(1) beside another one", x.had(1), 0);
    }

    private void whatToAsk() {
        s.says(TERMS, "ASK of a MINUTE: the MINUTE behind which, of all its GUSTS that may have blown so");
        ElectingWind x = Checks.told(".", "n0n5", "005o");
        s.due("ask(0)", x.ask(0), 1);
        x.seen(0, 8);
        s.due("ask(0), nobody SEEN behind 0", x.ask(0), 1);
        x.forget();
        x.seen(1, 0);
        s.due("ask(0), 0 SEEN behind 1", x.ask(0), 0);
        x.seen(1, 8);
        s.due("ask(0), when none may have blown", x.ask(0), 0);
        s.says(TERMS, "the greatest number by which like ones (or nobody) are IN is least, of like ones the least.");
        x = Checks.told(".", "n0n5", "005o");
        s.due("ask(0), nobody by 24 or by 20", x.ask(0), 1);
        s.due("ask(1), nobody by 40 or by 24", x.ask(1), 1);
        s.due("ask(0), by 24 both", Checks.told(".", "n0n3", "005o").ask(0), 0);
        s.due("ask(2), by 40, 40 and 24", Checks.told(".", "n0n0n5", "005o").ask(2), 2);
        s.due("ask(1), by 40, 24 and 24", Checks.told(".", "n0n0n3", "005o").ask(1), 1);
        x = Checks.told("..", "n0n6", "005o;018o");
        s.due("ask(0), nobody by 27, or 0 by 40", x.ask(0), 0);
        s.due("ask without CANDIDATES", Checks.told(".", TWELVE, "").ask(11), 0);
        s.due("ask of a twelfth", Checks.told(".", "n0n0n0n0n0n0n0n0n0n0n0n0", "001o").ask(11), 11);
    }

    private void calms() {
        s.says(TERMS, "CALM: each GUST blows by c sixteenths (0 to 16), by itself (else its FORCE is 0)");
        chance(".", "n9", "005o", 0, 0, 0, 1);
        chance(".", "n9", "005o", 1, 0, 1, 16);
        chance(".", "n9", "005o", 16, 0, 1, 1);
        chance(".", "n5n5", "005o", 3, 0, 9, 256);
        chance(".", "n5n5", "005o", 4, 0, 1, 16);
        chance(".", "n9n9", "005o", 4, 0, 1, 4);
        chance(".", "n9n1", "005o", 4, 0, 1, 16);
        chance(".", "n9n1n1", "005o", 8, 0, 1, 4);
        chance(".", TWELVE, "009x", 16, 0, 1, 1);
        chance(".", TWELVE, "009x", 0, 0, 0, 1);
        s.says(TERMS, "the chance that a CANDIDATE is IN behind the last MINUTE: a FRACTION.");
        chance("..", "n3n9", "002o;015o", 8, 0, 1, 4);
        chance("..", "n3n9", "002o;015o", 8, 1, 1, 4);
        chance("..", "n3n9", "002o;015o", 4, 0, 3, 16);
        chance("..", "n3n9", "002o;015o", 4, 1, 1, 16);
        chance("..", "n3n9", "002o;015o", 16, 0, 0, 1);
        chance(".", "n9n0", "001o", 16, 0, 0, 1);
        chance(".", "", "001o", 16, 0, 0, 1);
        chance("#", "n9", "001o", 16, 0, 0, 1);
    }

    private void weatherBySeed() {
        s.says(TERMS, "WEATHER by a SEED: n GUSTS (1 to 12), each a LOT of 4, from where, then a LOT of 10, its FORCE");
        // SEED 3: w7, e0, s6, e3; SEED 2: n7, w2, e5, n5.
        weathers(".", "006o", 3, 1, 0, 1);
        weathers(".", "007o", 3, 1, NONE, 0);
        weathers("#.", "011x", 3, 1, NONE, 0);
        weathers("#.", "015o", 3, 3, 0, 1);
        weathers("#.", "016o", 3, 3, NONE, 0);
        weathers(".;#", "005o", 3, 3, NONE, 1);
        weathers("#..;###", "014o", 2, 1, 0, 1);
        weathers("#..;###", "014o", 2, 2, NONE, 1);
        weathers(".", "", 3, 12, NONE, 0);
        s.says(TERMS, "in place of those told: who is IN behind the last; NONE; how many umbrellas have turned.");
        ElectingWind x = Checks.told("..", "n9", "008o;019h");
        s.due("weather(3, 1, 0), in place of n9", x.weather(3, 1, 0), NONE);
        s.due("weather(3, 2, 1), in place of n9", x.weather(3, 2, 1), 0);
        s.due("in(0) behind it", x.in(0), 0);
        s.due("count(1) behind it", x.count(1), 1);
        Checks.tell(x, 1, TWELVE);
        s.due("weather(3, 1, 0), in place of twelve", x.weather(3, 1, 0), NONE);
        s.due("weather(3, 1, 1), in place of twelve", x.weather(3, 1, 1), 0);
        weathers("..", "006o;013o", 3, 2, NONE, 1);
        weathers("#.", "015o", 3, 3, 0, 1);
        weathers("..", "", 3, 12, NONE, 0);
        weathers("", "001x", 3, 12, NONE, 0);
    }

    private void seen() {
        s.says(19, "SEEN more: how many.");
        ElectingWind x = new ElectingWind();
        s.due("seen(0, 0)", x.seen(0, 0), 1);
        s.due("seen(0, 0) again", x.seen(0, 0), 2);
        s.due("seen(11, 8)", x.seen(11, 8), 3);
        s.due("count(7)", x.count(7), 3);
        s.says(19, "BAD; FULL.");
        for (int m : new int[] {-1, 12, Integer.MIN_VALUE, Integer.MAX_VALUE}) s.due("seen(" + m + ", 0)", x.seen(m, 0), BAD);
        for (int k : new int[] {-1, 9, Integer.MIN_VALUE, Integer.MAX_VALUE}) s.due("seen(0, " + k + ")", x.seen(0, k), BAD);
        for (int k = 4; k <= 8; k++) s.due("seen, number " + k, x.seen(0, 8), k);
        s.due("seen, the ninth", x.seen(0, 8), FULL);
        s.due("seen, the ninth and BAD", x.seen(12, 8), BAD);
        s.due("count(7)", x.count(7), 8);
    }

    private void forget() {
        s.says(20, "All SEEN are forgotten: how many.");
        ElectingWind x = Checks.told(".", "n3", "005o");
        s.due("forget() of none", x.forget(), 0);
        x.seen(0, 0);
        s.due("blew(0, NONE)", x.blew(0, NONE), 16);
        s.due("forget() of one", x.forget(), 1);
        s.due("count(7)", x.count(7), 0);
        s.due("blew(0, NONE) behind it", x.blew(0, NONE), 40);
        s.due("had(0) behind it", x.had(0), 1022);
        for (int k = 0; k < 8; k++) x.seen(0, 8);
        s.due("forget() of eight", x.forget(), 8);
        s.due("seen behind it", x.seen(0, 8), 1);
    }

    /** A sheet of ints with these items. */
    private static ElectingWind with(ElectingWind x, int... items) {
        x.sheet(0, 2, items.length);
        for (int i = 0; i < items.length; i++) x.put(0, 2, i, items[i]);
        return x;
    }

    private void read() {
        s.says(21, "SEEN more, behind those that there are, from a SHEET: its items, two for each, as many as are whole");
        ElectingWind x = with(Checks.told(".", "n0n9", "005o"), 0, 8, 1, 0);
        s.due("read(0)", x.read(0), 2);
        s.due("blew(0, NONE)", x.blew(0, NONE), 24);
        s.due("blew(1, NONE)", x.blew(1, NONE), 16);
        s.due("read(0) again", x.read(0), 2);
        s.due("count(7)", x.count(7), 4);
        with(x, 0, 0);
        s.due("read(0) of what was not", x.read(0), 1);
        s.due("blew(1, NONE), behind those that there were", x.blew(1, NONE), 0);
        s.due("forget()", x.forget(), 5);
        s.due("read of no items", with(x).read(0), 0);
        s.due("read of one item", with(x, 0).read(0), 0);
        s.due("read of three items", with(x, 0, 8, 1).read(0), 1);
        s.due("count(7)", x.count(7), 1);
        s.says(21, "one by one as seen() takes them, up to the first that it refuses: how many it took.");
        x = with(Checks.told(".", "n9", "005o"), 0, 0, 12, 0, 0, 8);
        s.due("read up to a MINUTE that is BAD", x.read(0), 1);
        s.due("count(7)", x.count(7), 1);
        s.due("blew(0, NONE)", x.blew(0, NONE), 16);
        s.due("read up to a CANDIDATE that is BAD", with(x, 0, 8, 0, 8, 0, 9, 0, 8).read(0), 2);
        s.due("read, the first is BAD", with(x, -1, 8, 0, 8).read(0), 0);
        s.due("count(7)", x.count(7), 3);
        s.due("count(8): a refusal is no finding", x.count(8), 0);
        x.sheet(1, 0, 60);
        s.due("read up to FULL", x.read(1), 5);
        s.due("read when FULL", x.read(1), 0);
        s.due("count(7)", x.count(7), 8);
        s.says(21, "BAD; NULL.");
        for (int k : new int[] {-1, 4, Integer.MIN_VALUE, Integer.MAX_VALUE}) s.due("read(" + k + ")", x.read(k), BAD);
        s.due("read(3) of one LOST", x.read(3), Sentences.NULL);
        s.due("count(8)", x.count(8), 1);
    }

    private void blew() {
        s.says(22, "BLEW: how many (i = NONE), the i-th (0 to 39; NONE).");
        ElectingWind x = Checks.told(".", "n3", "005o");
        gusts(x, 0, forces(0, 9));
        x.seen(0, 0);
        gusts(x, 0, forces(6, 9));
        s.due("blew(0, 39)", x.blew(0, 39), NONE);
        s.says(22, "BAD.");
        for (int m : new int[] {-1, 1, 12, Integer.MIN_VALUE, Integer.MAX_VALUE}) s.due("blew(" + m + ", 0)", x.blew(m, 0), BAD);
        for (int i : new int[] {-2, 40, Integer.MIN_VALUE, Integer.MAX_VALUE}) s.due("blew(0, " + i + ")", x.blew(0, i), BAD);
        s.due("blew(0, NONE) without MINUTES", new ElectingWind().blew(0, NONE), BAD);
    }

    private void had() {
        s.says(23, "HAD, as bits.");
        ElectingWind x = Checks.told(".", "n3", "005o");
        s.due("had(0)", x.had(0), 1022);
        x.seen(0, 0);
        s.due("had(0), 0 SEEN", x.had(0), 2 + 4);
        s.due("had of one NOWHERE", Checks.told("", "n3", "005o").had(0), 1022);
        s.says(23, "BAD.");
        for (int k : new int[] {-1, 1, 8, Integer.MIN_VALUE, Integer.MAX_VALUE}) s.due("had(" + k + ")", x.had(k), BAD);
        s.due("had(0) without CANDIDATES", new ElectingWind().had(0), BAD);
    }

    private void ask() {
        s.says(24, "ASK.");
        s.due("ask(0)", Checks.told(".", "n0n5", "005o").ask(0), 1);
        s.due("ask(11)", Checks.told(".", "n0n0n0n0n0n0n0n0n0n0n0n0", "001o").ask(11), 11);
        s.says(24, "BAD: also a MINUTE that there is not.");
        ElectingWind x = Checks.told(".", "n0n5", "005o");
        for (int m : new int[] {-1, 2, 11, 12, Integer.MIN_VALUE, Integer.MAX_VALUE}) s.due("ask(" + m + ")", x.ask(m), BAD);
        s.due("ask(0) without MINUTES", Checks.told(".", "", "005o").ask(0), BAD);
    }

    private void calm() {
        s.says(25, "CALM: above, below.");
        chance(".", "n9", "005o", 6, 0, 3, 8);
        chance(".", "n1", "005o", 6, 0, 0, 1);
        s.says(25, "BAD. (A refusal -x is the least long and x more.)");
        ElectingWind x = Checks.told(".", "n9", "005o");
        for (int by : new int[] {-1, 17, Integer.MIN_VALUE, Integer.MAX_VALUE}) s.due("calm(" + by + ", 0, 0)", x.calm(by, 0, 0), NO);
        for (int k : new int[] {-1, 1, 8, Integer.MIN_VALUE, Integer.MAX_VALUE}) s.due("calm(8, " + k + ", 0)", x.calm(8, k, 0), NO);
        for (int what : new int[] {-1, 2, Integer.MIN_VALUE, Integer.MAX_VALUE}) s.due("calm(8, 0, " + what + ")", x.calm(8, 0, what), NO);
        s.due("calm(8, 0, 0) without CANDIDATES", new ElectingWind().calm(8, 0, 0), NO);
    }

    private void weather() {
        s.says(26, "WEATHER: who is IN (what = 0; NONE), how many (1).");
        weathers("..", "006o;013o", 3, 1, 0, 1);
        weathers("..", "006o;012o", 3, 1, 1, 2);
        weathers("..", "007o;013o", 3, 1, NONE, 0);
        s.says(26, "BAD.");
        ElectingWind x = Checks.told(".", "n9", "005o");
        for (int n : new int[] {-1, 0, 13, Integer.MIN_VALUE, Integer.MAX_VALUE}) s.due("weather(1, " + n + ", 0)", x.weather(1, n, 0), BAD);
        for (int what : new int[] {-1, 2, Integer.MIN_VALUE, Integer.MAX_VALUE}) s.due("weather(1, 1, " + what + ")", x.weather(1, 1, what), BAD);
        for (int seed : new int[] {-1, Integer.MIN_VALUE, Integer.MAX_VALUE}) s.due("weather(" + seed + ", 13, 0)", x.weather(seed, 13, 0), BAD);
    }
}
