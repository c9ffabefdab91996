/** Sentences on winds, ribs and who is in: the first inset paragraph, Terms 2, promises 9 to 14. */
final class BoundsOfWinds {
    private static final int TERMS = Sentences.TERMS, NONE = Sentences.NONE, BAD = Sentences.BAD;

    private final Sentences s;

    BoundsOfWinds(Sentences s) { this.s = s; }

    void all() {
        force();
        shelter();
        arch();
        lee();
        edge();
        strained();
        turnsOrWears();
        returned();
        elected();
        terms();
        wind();
        ribs();
        overturns();
        in();
        first();
        lulls();
    }

    /** The wind of a minute 0 on some cells. */
    private void winds(String corner, String gust, String candidates, int firstCell, int... due) {
        ElectingWind x = Checks.told(corner, gust, candidates);
        for (int k = 0; k < due.length; k++) {
            s.due("wind(0, " + (firstCell + k) + ") in " + corner + " " + gust + " " + candidates, x.wind(0, firstCell + k), due[k]);
        }
    }

    private void turns(String corner, String gusts, String candidates, int who, int... due) {
        ElectingWind x = Checks.told(corner, gusts, candidates);
        for (int what = 0; what < due.length; what++) {
            s.due("overturns(" + who + ", " + what + ") in " + corner + " " + gusts + " " + candidates, x.overturns(who, what), due[what]);
        }
    }

    /** The ribs of candidate 0 ahead of each minute. */
    private void wears(String gusts, String candidate, int... due) {
        ElectingWind x = Checks.told(".", gusts, candidate);
        for (int m = 0; m < due.length; m++) s.due("ribs(" + m + ", 0) by " + gusts + " of " + candidate, x.ribs(m, 0), due[m]);
    }

    private void isIn(String corner, String gusts, String candidates, int... due) {
        ElectingWind x = Checks.told(corner, gusts, candidates);
        for (int m = 0; m < due.length; m++) s.due("in(" + m + ") in " + corner + " " + gusts + " " + candidates, x.in(m), due[m]);
    }

    private void force() {
        s.says(TERMS, "The WIND on a CELL in a MINUTE: FORCE");
        for (char way : "nesw".toCharArray()) {
            for (int f = 0; f <= 9; f++) winds("...;...;...", "" + way + f, "", 4, f);
        }
    }

    private void shelter() {
        s.says(TERMS, "if the CELL beside it, from where it blows, is a wall: none");
        winds("#;.", "n9", "", 1, 0);
        winds(".#", "e9", "", 0, 0);
        winds(".;#", "s9", "", 0, 0);
        winds("#.", "w9", "", 1, 0);
        winds("#;#;.", "n9", "", 2, 0);
        winds("###;#.#", "n9", "", 4, 0);
        winds("#;.", "s9", "", 1, 9);
        winds("#.", "e9", "", 1, 9);
        s.says(TERMS, "else, if the one behind that is: half (cut)");
        winds("#;.;.;.", "n9", "", 1, 0, 4, 9);
        winds("...#", "e9", "", 0, 9, 4, 0);
        winds(".;.;.;#", "s9", "", 0, 9, 4, 0);
        winds("#...", "w9", "", 1, 0, 4, 9);
        winds("#..", "w8", "", 2, 4);
        winds("#..", "w1", "", 2, 0);
        winds("#..", "w0", "", 2, 0);
        winds("#..", "e9", "", 1, 9, 9);
    }

    private void arch() {
        s.says(TERMS, "then, if both CELLS beside it across the GUST are walls, and it is not 0: 3 more");
        winds("#.#", "n9", "", 1, 12);
        winds("#.#", "s1", "", 1, 4);
        winds("#;.;#", "e9", "", 1, 12);
        winds("#;.;#", "w1", "", 1, 4);
        winds("#.#", "n0", "", 1, 0);
        winds("#..", "n9", "", 1, 9);
        winds("..#", "n9", "", 1, 9);
        winds("#.#", "e9", "", 1, 0);
        winds(".#.;...;#.#", "n9", "", 7, 7);
        winds(".#.;...;#.#", "n2", "", 7, 4);
        winds(".#.;...;#.#", "n1", "", 7, 0);
        winds(".#.;#.#", "n9", "", 4, 0);
    }

    private void lee() {
        s.says(TERMS, "then, if a CANDIDATE stands on the CELL beside it, from where it blows");
        winds(".;.;.", "n9", "009h", 0, 9, 4, 9);
        winds(".;.;.", "s9", "029h", 0, 9, 4, 9);
        winds("...", "w9", "009h", 0, 9, 4, 9);
        winds("...", "e9", "029h", 0, 9, 4, 9);
        winds(".;.;.", "n9", "019h", 0, 9, 9, 4);
        winds(".;.", "n8", "009h;009x;009o", 0, 8, 4);
        winds("...;#.#", "n9", "019h", 4, 6);
        winds("...;#.#", "n8", "019h", 4, 5);
        winds("#;.;.", "n7", "019h", 2, 1);
        winds("..", "w9", "019h", 0, 9, 9);
        winds("..", "w9", "299h", 0, 9, 9);
        s.says(TERMS, "whose umbrella has not turned in a MINUTE ahead: half (cut).");
        ElectingWind x = Checks.told(".;.", "n5n5n0n7", "001o");
        s.due("wind(0, 1), in the MINUTE of turning", x.wind(0, 1), 2);
        s.due("wind(1, 1), behind it", x.wind(1, 1), 5);
        s.due("wind(3, 1), later", x.wind(3, 1), 7);
        x = Checks.told(".;.", "n5n0n5", "001o");
        s.due("wind(2, 1), behind one RETURNED", x.wind(2, 1), 5);
        x = Checks.told(".;.", "n5n5", "001o;009h");
        s.due("wind(1, 1), behind one turned and one not", x.wind(1, 1), 2);
        winds(".;.", "n1", "009h", 1, 0);
        winds(".;.", "n0", "009h", 1, 0);
    }

    private void edge() {
        s.says(TERMS, "(Beyond the edge nothing is a wall");
        for (char way : "nesw".toCharArray()) winds(".", way + "9", "", 0, 9);
        winds("..#;...", "w9", "", 3, 9, 9);
        winds("...;#..", "e9", "", 1, 9, 9);
        winds("..#;.#.", "n9", "", 3, 9);
        winds(".#.;#..", "n9", "", 2, 9);
        winds(".#;..", "n9", "", 0, 9);
        winds("...;...", "w8", "029h", 3, 8);
        winds("...;...", "e8", "039h", 2, 8);
        s.says(TERMS, "on a wall there is none.)");
        winds("#", "n9", "", 0, 0);
        winds("###", "n9", "", 0, 0, 0, 0);
        winds(".;#;.", "n9", "009h", 1, 0);
    }

    private void strained() {
        s.says(TERMS, "In a MINUTE all CANDIDATES that are somewhere");
        turns("#", "n9", "001x", 0, NONE, 0, 0, 0);
        turns(".", "n9", "011x", 0, NONE, 0, 0, 0);
        turns("", "n9", "001x", 0, NONE, 0, 0, 0);
        s.due("ribs(1, 0) of one NOWHERE", Checks.told(".", "n5n5", "015o").ribs(1, 0), 5);
        for (int k = 0; k < 8; k++) {
            turns(".....", "n9", "001o;001o;011o;011o;021o;031o;041o;041o", k, 0);
        }
        s.says(TERMS, "whose umbrella has not turned ahead");
        wears("n9n5n5", "005o", 5, 5, 5);
        turns(".", "n9n9n9", "005o", 0, 0);
        wears("n9n0n5n5", "005o", 5, 5, 5, 5);
        s.says(TERMS, "are strained by half the WIND (cut), if it is held low");
        turns(".", "n9", "003h", 0, 0);
        turns(".", "n9", "004h", 0, NONE);
        turns(".", "n7", "003h", 0, NONE);
        wears("n9n0", "004h", 4, 3);
        wears("n9n0", "005h", 5, 5);
        turns(".", "n3", "001h", 0, NONE);
        s.says(TERMS, "by the WIND, upright, by twice that, across.");
        turns(".", "n4", "003o", 0, 0);
        turns(".", "n4", "004o", 0, NONE);
        wears("n4n0", "005o", 5, 5);
        turns(".", "n2", "003x", 0, 0);
        turns(".", "n2", "004x", 0, NONE);
        wears("n2n0", "004x", 4, 3);
        turns("#.#", "n9", "019o", 0, 0);
    }

    private void turnsOrWears() {
        s.says(TERMS, "If that is more than its RIBS, it TURNS");
        for (int r = 1; r <= 9; r++) {
            turns(".", "n" + r, "00" + r + "o", 0, NONE);
            if (r > 1) turns(".", "n" + r, "00" + (r - 1) + "o", 0, 0);
        }
        turns(".", "n5", "009x", 0, 0);
        s.says(TERMS, "if it is as many as its RIBS, which are above 1, it has one fewer from the next MINUTE on.");
        wears("n5n0n5n0n4n0", "005o", 5, 4, 4, 4, 4, 4);
        wears("n5n0n4n0", "005o", 5, 4, 4, 3);
        wears("n2n0n1n0", "002o", 2, 1, 1, 1);
        wears("n1n1", "001o", 1, 1);
        turns(".", "n1n1", "001o", 0, NONE);
        wears("n4n0", "005o", 5, 5);
        wears("n6n0", "005o", 5, 5);
        turns(".", "n5n5", "005o", 0, 1);
    }

    private void returned() {
        s.says(TERMS, "It is RETURNED, if there is a next MINUTE");
        turns(".", "n9", "001o", 0, 0, 0, 1, 1);
        turns(".", "n9n0", "001o", 0, 0, 1, 0, 0);
        turns(".", "n0n9", "001o", 0, 1, 0, 1, 1);
        turns(".", "n9n1n9n1n9n1n9n1n9n1n9n0", "001o", 0, 0, 0, 1, 12);
        turns(".", "n0n0n0n0n0n0n0n0n0n0n9n0", "001o", 0, 10, 1, 0, 0);
        s.says(TERMS, "and no WIND on its CELL in that");
        turns(".", "n9n1", "001o", 0, 0, 0, 1, 2);
        turns(".", "n9n1n0", "001o", 0, 0, 0, 1, 3);
        turns("#;.", "s9n9", "011o", 0, 0, 1, 0, 0);
        turns("#;.;.", "s9n1", "021o", 0, 0, 1, 0, 0);
        turns("#;.;.", "s9n2", "021o", 0, 0, 0, 1, 2);
        turns(".;.", "n3n1", "009h;011x", 1, 0, 1, 0, 0);
        turns(".;.", "n3n1", "001o;011x", 1, 0, 0, 0, 0);
        s.says(TERMS, "(RETURNED or not, it has turned from then on).");
        ElectingWind x = Checks.told(".;.", "n9n0n8n0n8", "001o");
        s.due("wind(2, 1), behind one RETURNED", x.wind(2, 1), 8);
        s.due("overturns(0, 0)", x.overturns(0, 0), 0);
        s.due("in(4)", x.in(4), NONE);
        s.due("count(6)", x.count(6), 1);
        x = Checks.told(".;.", "n9n1n8", "001o");
        s.due("wind(2, 1), behind one that is not", x.wind(2, 1), 8);
        s.due("overturns(0, 0)", x.overturns(0, 0), 0);
        wears("n9n0n3n3", "003o", 3, 3, 3, 3);
    }

    private void elected() {
        s.says(TERMS, "Who TURNS in a MINUTE, and is not RETURNED, is ELECTED in it");
        turns(".", "n9", "001o", 0, 0, 0, 1, 1);
        turns(".", "n9n0", "001o", 0, 0, 1, 0, 0);
        turns("#;.;.", "s9n9", "011o;025o", 0, 0, 1, 0, 0);
        turns("#;.;.", "s9n9", "011o;025o", 1, 0, 0, 1, 2);
        turns(".", "n1", "001o", 0, NONE, 0, 0, 0);
        s.says(TERMS, "(of some the one with fewest RIBS then, of like ones the least)");
        isIn("..", "n9", "003o;012o", 1);
        isIn("..", "n9", "002o;013o", 0);
        isIn("..", "n9", "003o;013o", 0);
        isIn("...", "n9", "004o;013o;023h", 1);
        isIn("..", "n3n9", "003h;013o", NONE, 1);
        isIn("..", "n4n9", "004x;014o;003x", 2, 1);
        isIn(".....", "n9", "009x;018o;027o;036o;045o;004o;013o;022h", 7);
        s.says(TERMS, "who is ELECTED is IN from that MINUTE on, until another one is.");
        isIn("..", "n0n3n9n0", "001o;015o", NONE, 0, 0, 0);
        isIn("..", "n0n3n9n1", "001o;015o", NONE, 0, 1, 1);
        isIn("..", "n9n1n0n0n9n9", "001o", 0, 0, 0, 0, 0, 0);
        isIn("..", "n0n3n0n9", "001o;015o", NONE, NONE, NONE, 1);
    }

    private void terms() {
        s.says(TERMS, "The WIND on a CELL in a MINUTE; RIBS of a CANDIDATE in a MINUTE (as they are ahead of it).");
        ElectingWind x = Checks.told("..", "n5e0", "005o");
        s.due("wind(0, 1)", x.wind(0, 1), 5);
        s.due("ribs(0, 0)", x.ribs(0, 0), 5);
        s.due("ribs(1, 0)", x.ribs(1, 0), 4);
        s.says(TERMS, "Of a CANDIDATE: the MINUTE in which its umbrella TURNS; NONE");
        turns(".", "n0n0n9", "005o", 0, 2);
        turns(".", "n9n0n9", "005o", 0, 0);
        turns(".", "n0n0n4", "005o", 0, NONE);
        turns(".", "", "005o", 0, NONE);
        s.says(TERMS, "whether it is RETURNED; whether it is ELECTED; for how many MINUTES it is IN.");
        turns(".", "n0n9n1n0", "005o", 0, 1, 0, 1, 3);
        turns(".", "n0n9n0n1", "005o", 0, 1, 1, 0, 0);
        turns("..", "n3n3n9n1", "001o;015o", 0, 0, 0, 1, 2);
        turns("..", "n3n3n9n1", "001o;015o", 1, 2, 0, 1, 2);
        turns("..", "n9n9", "001o;012o", 1, 0, 0, 0, 0);
        s.says(TERMS, "IN behind a MINUTE: who; NONE.");
        isIn(".", "n0n9", "001o", NONE, 0);
        isIn("..", "n9", "005o;011o", 1);
        isIn("..", "n9", "", NONE);
        s.says(TERMS, "FIRST: the MINUTE in which one is ELECTED first; who; NONE.");
        firstIs("..", "n0n3n9n1", "005o;011o", 1, 1);
        firstIs("..", "n3n0n9n1", "005o;011o", 2, 0);
        firstIs("..", "n9", "001o;012o", 0, 0);
        firstIs("..", "n1n1", "001o;012o", NONE, NONE);
        s.says(TERMS, "LULLS: how many MINUTES there are behind which nobody is IN.");
        s.due("lulls()", Checks.told(".", "n0n1n9n1n0", "001o").lulls(), 2);
        s.due("lulls(), then 1 is in", Checks.told("..", "n0n9n1", "005o;011o").lulls(), 1);
        s.due("lulls() of all", Checks.told(".", "n0n9n0", "001o").lulls(), 3);
        s.due("lulls(), none", Checks.told(".", "n9n1n0", "001o").lulls(), 0);
    }

    private void firstIs(String corner, String gusts, String candidates, int minute, int who) {
        ElectingWind x = Checks.told(corner, gusts, candidates);
        s.due("first(0) in " + corner + " " + gusts + " " + candidates, x.first(0), minute);
        s.due("first(1) in " + corner + " " + gusts + " " + candidates, x.first(1), who);
    }

    private void wind() {
        s.says(9, "The WIND.");
        winds(".;.", "n9", "009h", 0, 9, 4);
        s.due("wind(11, 24)", Checks.told(".....;.....;.....;.....;.....", "n1n1n1n1n1n1n1n1n1n1n1n7", "").wind(11, 24), 7);
        s.says(9, "BAD: a MINUTE, a CELL that there is not.");
        ElectingWind x = Checks.told(".;.", "n1e2", "");
        for (int m : new int[] {-1, 2, 12, Integer.MIN_VALUE, Integer.MAX_VALUE}) s.due("wind(" + m + ", 0)", x.wind(m, 0), BAD);
        for (int cell : new int[] {-1, 2, 24, 25, Integer.MIN_VALUE, Integer.MAX_VALUE}) s.due("wind(0, " + cell + ")", x.wind(0, cell), BAD);
        s.due("wind(0, 0) without MINUTES", Checks.told(".", "", "").wind(0, 0), BAD);
        s.due("wind(0, 0) without CELLS", Checks.told("", "n9", "").wind(0, 0), BAD);
    }

    private void ribs() {
        s.says(10, "RIBS ahead of a MINUTE.");
        wears("n5n0", "005o", 5, 4);
        wears("n9n8n7n6n5n4n3n2n1n0n0n0", "009o", 9, 8, 7, 6, 5, 4, 3, 2, 1, 1, 1, 1);
        s.due("ribs(0, 7)", Checks.told("", "n1", "001h;001h;001h;001h;001h;001h;001h;009h").ribs(0, 7), 9);
        s.says(10, "BAD.");
        ElectingWind x = Checks.told(".", "n1n1", "001h;002h");
        for (int m : new int[] {-1, 2, 12, Integer.MIN_VALUE, Integer.MAX_VALUE}) s.due("ribs(" + m + ", 0)", x.ribs(m, 0), BAD);
        for (int k : new int[] {-1, 2, 8, Integer.MIN_VALUE, Integer.MAX_VALUE}) s.due("ribs(0, " + k + ")", x.ribs(0, k), BAD);
        s.due("ribs(0, 0) without MINUTES", Checks.told(".", "", "001h").ribs(0, 0), BAD);
        s.due("ribs(0, 0) without CANDIDATES", Checks.told(".", "n9", "").ribs(0, 0), BAD);
    }

    private void overturns() {
        s.says(11, "The MINUTE in which it TURNS (what = 0; NONE), whether it is RETURNED (1), ELECTED (2), for how many MINUTES it is IN (3).");
        turns(".", "n0n9n1n0", "005o", 0, 1, 0, 1, 3);
        turns(".", "n0n9n0n1", "005o", 0, 1, 1, 0, 0);
        turns(".", "n0n4n0n1", "005o", 0, NONE, 0, 0, 0);
        s.says(11, "BAD.");
        ElectingWind x = Checks.told(".", "n9", "001o;001h");
        for (int k : new int[] {-1, 2, 8, Integer.MIN_VALUE, Integer.MAX_VALUE}) {
            for (int what = 0; what < 4; what++) s.due("overturns(" + k + ", " + what + ")", x.overturns(k, what), BAD);
        }
        for (int what : new int[] {-1, 4, Integer.MIN_VALUE, Integer.MAX_VALUE}) s.due("overturns(0, " + what + ")", x.overturns(0, what), BAD);
    }

    private void in() {
        s.says(12, "Who is IN; NONE.");
        isIn("..", "n0n3n9n1", "001o;015o", NONE, 0, 1, 1);
        isIn("..", "n0", "", NONE);
        s.says(12, "BAD.");
        ElectingWind x = Checks.told(".", "n9n9", "001o");
        for (int m : new int[] {-1, 2, 12, Integer.MIN_VALUE, Integer.MAX_VALUE}) s.due("in(" + m + ")", x.in(m), BAD);
        s.due("in(0) without MINUTES", Checks.told(".", "", "001o").in(0), BAD);
    }

    private void first() {
        s.says(13, "FIRST: the MINUTE (what = 0), who (1); NONE.");
        firstIs("..", "n0n0n3n9", "005o;011o", 2, 1);
        firstIs("..", "n0n0n0n9", "001o;011o", 3, 0);
        firstIs(".", "n9n0", "001o", NONE, NONE);
        firstIs(".", "", "001o", NONE, NONE);
        firstIs("", "", "", NONE, NONE);
        s.says(13, "BAD.");
        ElectingWind x = Checks.told(".", "n9", "001o");
        for (int what : new int[] {-1, 2, Integer.MIN_VALUE, Integer.MAX_VALUE}) s.due("first(" + what + ")", x.first(what), BAD);
        s.due("first(2) of a new object", new ElectingWind().first(2), BAD);
    }

    private void lulls() {
        s.says(14, "LULLS: how many.");
        s.due("lulls()", Checks.told(".", "n0n9n1", "001o").lulls(), 1);
        s.due("lulls() without CANDIDATES", Checks.told(".", "n9n9n9n9n9n9n9n9n9n9n9n9", "").lulls(), 12);
        s.due("lulls() without MINUTES", Checks.told(".", "", "001o").lulls(), 0);
        s.due("lulls() of a new object", new ElectingWind().lulls(), 0);
    }
}
