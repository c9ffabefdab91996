/** Promises 9 to 14: winds, ribs, umbrellas, who is in. */
public final class WindTest {
    private static final int NONE = ElectingWind.NONE, BAD = ElectingWind.BAD;
    private static final Checks c = new Checks("WindTest");

    private static void windOf(String corner, String gust, String candidates, int cell, int due) {
        ElectingWind x = Checks.told(corner, gust, candidates);
        c.due("wind on " + cell + " of " + corner + " by " + gust + " past " + candidates, x.wind(0, cell), due);
    }

    private static void winds() {
        c.promise(9);
        for (String way : new String[] {"n", "e", "s", "w"}) windOf("...;...;...", way + "7", "", 4, 7);
        int[] column = {0, 0, 4, 9};
        for (int cell = 0; cell < 4; cell++) windOf("#;.;.;.", "n9", "", cell, column[cell]);
        for (int cell = 0; cell < 4; cell++) windOf(".;.;.;#", "s9", "", cell, column[3 - cell]);
        for (int cell = 0; cell < 4; cell++) windOf("#...", "w9", "", cell, column[cell]);
        for (int cell = 0; cell < 4; cell++) windOf("...#", "e9", "", cell, column[3 - cell]);
        windOf("##.", "w9", "", 2, 0);
        windOf("..;#.;..", "e9", "", 0, 9);
        windOf("#.;.#", "e9", "", 2, 0);
        // the arch
        windOf("#.#", "n9", "", 1, 12);
        windOf("#.#", "s1", "", 1, 4);
        windOf("#.#", "n0", "", 1, 0);
        windOf("#;.;#", "e9", "", 1, 12);
        windOf("#;.;#", "w2", "", 1, 5);
        windOf("#;.;#", "n9", "", 1, 0);
        windOf("#..", "n9", "", 1, 9);
        windOf("#.", "n9", "", 1, 9);
        windOf(".#;#.", "n9", "", 3, 0);
        windOf(".#.;...;#.#", "n9", "", 7, 7);
        windOf(".#.;...;#.#", "n2", "", 7, 4);
        windOf(".#.;...;#.#", "n1", "", 7, 0);
        windOf("...;#.#", "n9", "011h", 4, 6);
        // the lee of a candidate
        windOf(".;.", "n9", "009h", 1, 4);
        windOf(".;.", "n1", "009h", 1, 0);
        windOf(".;.", "n9", "009h;009h", 1, 4);
        windOf(".;.", "n9", "009h", 0, 9);
        windOf(".;.;.", "n9", "009h", 2, 9);
        windOf("#;.", "n9", "009h", 1, 0);
        windOf(".;.", "s9", "009h", 1, 9);
        windOf("..", "w8", "009h", 1, 4);
        windOf("..", "e8", "019h", 0, 4);
        windOf("..;..", "e8", "029h", 1, 8);
        ElectingWind x = Checks.told(".;.", "n4n4", "001o;019h");
        c.due("a lee in the minute of turning", x.wind(0, 1), 2);
        c.due("no lee behind it", x.wind(1, 1), 4);
        c.due("wind(2, 0)", x.wind(2, 0), BAD);
        c.due("wind(-1, 0)", x.wind(-1, 0), BAD);
        c.due("wind(0, 2)", x.wind(0, 2), BAD);
        c.due("wind(0, -1)", x.wind(0, -1), BAD);
    }

    private static void ribs() {
        c.promise(10);
        ElectingWind x = Checks.told(".....", "n4n4n4", "004o;015o;022h;038x;041o;294o");
        int[][] due = {{4, 5, 2, 8, 1, 4}, {3, 5, 1, 7, 1, 4}, {3, 5, 1, 7, 1, 4}};
        for (int m = 0; m < 3; m++) {
            for (int k = 0; k < 6; k++) c.due("ribs(" + m + ", " + k + ")", x.ribs(m, k), due[m][k]);
        }
        x = Checks.told(".", "n1n1n1", "001o");
        c.due("one rib is not lost", x.ribs(2, 0), 1);
        c.due("one rib does not turn of as much", x.overturns(0, 0), NONE);
        x = Checks.told(".", "n5n0n5n0n4", "005o");
        int[] alone = {5, 4, 4, 4, 4};
        for (int m = 0; m < 5; m++) c.due("ribs(" + m + ", 0)", x.ribs(m, 0), alone[m]);
        c.due("ribs(5, 0)", x.ribs(5, 0), BAD);
        c.due("ribs(-1, 0)", x.ribs(-1, 0), BAD);
        c.due("ribs(0, 1)", x.ribs(0, 1), BAD);
        c.due("ribs(0, -1)", x.ribs(0, -1), BAD);
    }

    private static void turns(String corner, String gusts, String candidates, int who, int... due) {
        ElectingWind x = Checks.told(corner, gusts, candidates);
        for (int what = 0; what < 4; what++) {
            c.due("overturns(" + who + ", " + what + ") of " + corner + " " + gusts + " " + candidates,
                x.overturns(who, what), due[what]);
        }
    }

    private static void overturns() {
        c.promise(11);
        turns(".", "n4n4n4", "004o", 0, 1, 0, 1, 2);
        turns(".", "n4n4n4", "005o", 0, NONE, 0, 0, 0);
        turns(".", "n4", "003o", 0, 0, 0, 1, 1);
        turns(".", "n5", "002h", 0, NONE, 0, 0, 0);
        turns(".", "n6", "002h", 0, 0, 0, 1, 1);
        turns(".", "n2", "003x", 0, 0, 0, 1, 1);
        turns(".", "n2", "004x", 0, NONE, 0, 0, 0);
        turns(".", "n9n0n5", "001o", 0, 0, 1, 0, 0);
        turns(".", "n0n9", "001o", 0, 1, 0, 1, 1);
        turns(".", "n9n1n0n0", "001o", 0, 0, 0, 1, 4);
        turns("#", "n9", "001o", 0, NONE, 0, 0, 0);
        turns("#;.", "s9n9", "011o", 0, 0, 1, 0, 0);
        // returned in the lee of another one, whose umbrella has not turned
        turns(".;.", "n3n1", "009h;011x", 1, 0, 1, 0, 0);
        turns(".;.", "n3n1", "001o;011x", 1, 0, 0, 0, 0);
        // of some the one with fewest ribs then, of like ones the least
        turns("..", "n9n9", "003o;012o", 0, 0, 0, 0, 0);
        turns("..", "n9n9", "003o;012o", 1, 0, 0, 1, 2);
        turns("..", "n9n9", "003o;013o", 0, 0, 0, 1, 2);
        turns("..", "n9n9", "003o;013o", 1, 0, 0, 0, 0);
        turns("..", "n3n9", "003h;013o", 0, 1, 0, 0, 0);
        turns("..", "n3n9", "003h;013o", 1, 1, 0, 1, 1);
        // another one is elected behind it
        turns("..", "n3n9n1", "001o;015o", 0, 0, 0, 1, 1);
        turns("..", "n3n9n1", "001o;015o", 1, 1, 0, 1, 2);
        // one is returned, so the other one, with more ribs, is elected
        turns("#;.;.", "s9n9", "011o;025o", 0, 0, 1, 0, 0);
        turns("#;.;.", "s9n9", "011o;025o", 1, 0, 0, 1, 2);
        ElectingWind x = Checks.told(".", "n4", "003o");
        c.due("overturns(1, 0)", x.overturns(1, 0), BAD);
        c.due("overturns(-1, 0)", x.overturns(-1, 0), BAD);
        c.due("overturns(0, 4)", x.overturns(0, 4), BAD);
        c.due("overturns(0, -1)", x.overturns(0, -1), BAD);
    }

    private static void in() {
        c.promise(12);
        ElectingWind x = Checks.told("..", "n0n3n9n0", "001o;015o");
        int[] due = {NONE, 0, 0, 0};
        for (int m = 0; m < 4; m++) c.due("in(" + m + ")", x.in(m), due[m]);
        x = Checks.told("..", "n0n3n9n1", "001o;015o");
        int[] next = {NONE, 0, 1, 1};
        for (int m = 0; m < 4; m++) c.due("in(" + m + ")", x.in(m), next[m]);
        c.due("in(4)", x.in(4), BAD);
        c.due("in(-1)", x.in(-1), BAD);
        c.due("in(0) without minutes", Checks.told(".", "", "001o").in(0), BAD);
        c.due("in(0) without candidates", Checks.told(".", "n9", "").in(0), NONE);
    }

    private static void first() {
        c.promise(13);
        ElectingWind x = Checks.told("..", "n0n3n9n1", "005o;011o");
        c.due("first(0)", x.first(0), 1);
        c.due("first(1)", x.first(1), 1);
        x = Checks.told("..", "n3n0n9", "005o;011o");
        c.due("first(0), the first one returned", x.first(0), 2);
        c.due("first(1), the first one returned", x.first(1), 0);
        x = Checks.told("..", "n9n9", "005o;011o");
        c.due("first(0), in the very first", x.first(0), 0);
        c.due("first(1), in the very first", x.first(1), 1);
        x = Checks.told("..", "n3n0", "005o;011o");
        c.due("first(0): none", x.first(0), NONE);
        c.due("first(1): none", x.first(1), NONE);
        c.due("first(-1)", x.first(-1), BAD);
        c.due("first(2)", x.first(2), BAD);
    }

    private static void lulls() {
        c.promise(14);
        c.due("lulls()", Checks.told(".", "n0n1n9n1n0", "001o").lulls(), 2);
        c.due("lulls(), all", Checks.told(".", "n9n0", "001o").lulls(), 2);
        c.due("lulls(), none", Checks.told(".", "n9n1", "001o").lulls(), 0);
        c.due("lulls() without candidates", Checks.told(".", "n9n1n2", "").lulls(), 3);
        c.due("lulls() without minutes", Checks.told(".", "", "001o").lulls(), 0);
    }

    public static void main(String[] args) {
        winds();
        ribs();
        overturns();
        in();
        first();
        lulls();
        c.end();
    }
}
