/** Sentences on plans: Terms 3, promises 15 to 18. */
final class BoundsOfPlans {
    private static final int TERMS = Sentences.TERMS, NONE = Sentences.NONE, BAD = Sentences.BAD, NOT = Sentences.NOT;
    private static final String WIDE = ".....;.....;.....;.....;.....";

    private final Sentences s;

    BoundsOfPlans(Sentences s) { this.s = s; }

    void all() {
        standWhere();
        standFirst();
        shieldBy();
        shieldLeast();
        moveWhat();
        moveSoThat();
        bribeFewest();
        stand();
        shield();
        move();
        bribe();
    }

    private void stands(String corner, String gusts, String candidates, int who, int cell, int minute) {
        ElectingWind x = Checks.told(corner, gusts, candidates);
        String of = ") in " + corner + " " + gusts + " " + candidates;
        s.due("stand(" + who + ", 0" + of, x.stand(who, 0), cell);
        s.due("stand(" + who + ", 1" + of, x.stand(who, 1), minute);
    }

    private void shields(String corner, String gusts, String candidates, int who, int due) {
        ElectingWind x = Checks.told(corner, gusts, candidates);
        s.due("shield(" + who + ") in " + corner + " " + gusts + " " + candidates, x.shield(who), due);
    }

    private void moves(String corner, String gusts, String candidates, int many, int first) {
        ElectingWind x = Checks.told(corner, gusts, candidates);
        String of = ") in " + corner + " " + gusts + " " + candidates;
        s.due("move(0" + of, x.move(0), many);
        s.due("move(1" + of, x.move(1), first);
    }

    private void bribes(String corner, String gusts, String candidates, int who, int due) {
        ElectingWind x = Checks.told(corner, gusts, candidates);
        s.due("bribe(" + who + ") in " + corner + " " + gusts + " " + candidates, x.bribe(who), due);
    }

    private void standWhere() {
        s.says(TERMS, "STAND of a CANDIDATE: the CELL (open, on which no other one stands)");
        stands("#.", "n9", "015o", 0, 1, 0);
        stands("##", "n9", "005o", 0, NONE, NONE);
        stands("..", "n9", "009h;015o", 1, 1, 0);
        stands(".", "n9", "005o;009h", 0, NONE, NONE);
        stands("..", "n9", "005o;009h", 0, 1, 0);
        stands("..", "n9", "001o;015o", 1, 1, 0);
        stands("..", "n9", "015o;291h", 0, 0, 0);
        s.says(TERMS, "in place of its own, by which its umbrella TURNS first");
        stands("#;.;.;.", "n9w9", "015o", 0, 3, 0);
        stands("#;.;.", "n9", "013o", 0, 2, 0);
        stands("#;.;.", "n9", "293o", 0, 2, 0);
        stands("#.", "n9", "005o", 0, 1, 0);
        stands("#;.;.", "n9", "023o", 0, 2, 0);
        stands(".;#", "n0s9n9", "005o", 0, 0, 2);
        stands(".", "n9n0", "001o", 0, 0, 0);
    }

    private void standFirst() {
        s.says(TERMS, "of like ones the least: which; in which MINUTE; NONE: by none it does.");
        stands("...", "n9", "025o", 0, 0, 0);
        stands("#..", "n9", "025o", 0, 1, 0);
        stands("..", "n9", "299h", 0, NONE, NONE);
        stands("..", "n0n0n9", "015o", 0, 0, 2);
        stands("..", "n4n4", "014h", 0, NONE, NONE);
        stands(WIDE, "n5", "245o", 0, NONE, NONE);
        stands("..", "", "011x", 0, NONE, NONE);
        stands("", "n9", "001x", 0, NONE, NONE);
        stands(".....;.....;.....;.....;####.", "w9s9e9n9", "245x;019h;029h", 0, 0, 0);
        stands("#####;#####;#####;#####;####.", "n0n0n0n0n0n0n0n0n0n0n0s9", "005x", 0, 24, 11);
    }

    private void shieldBy() {
        s.says(TERMS, "SHIELD of a CANDIDATE: another CANDIDATE");
        shields(".;.", "n4", "013o;299h", 0, 32);
        shields(".;.", "n4", "299h;013o", 1, 0);
        shields(".;.", "n4", "013o", 0, NONE);
        shields("#;.;.", "n9", "023o", 0, NONE);
        s.says(TERMS, "and an open CELL on which nobody stands");
        shields(".;.", "n6n6", "014o;001o;299h", 0, NONE);
        shields(".;.", "n6n6", "014o;001o", 0, NONE);
        shields("#.;.#", "n4", "013o;299h", 0, NONE);
        shields("..;..", "n4", "023o;299h", 0, 32);
        s.says(TERMS, "in place of that one's own, by which its umbrella does not TURN");
        shields("..;..", "n6w6", "034o;019h", 0, NONE);
        shields("..;..", "n6w6", "034o;019h;299h", 0, 64 + 2);
        shields(".;.", "n9", "013o;299h", 0, NONE);
        shields(".;.", "n9n0", "013o;299h", 0, NONE);
        shields(".;.", "n4n4", "013o;291x", 0, NONE);
        shields(".;.;.", "n6n6", "024o;003o;299h", 0, 64 + 1);
    }

    private void shieldLeast() {
        s.says(TERMS, "of like ones the least CANDIDATE, then the least CELL: as 32 times the CANDIDATE, and the CELL");
        shields("...;...;...", "s5n5", "045o;299h", 0, 32 + 1);
        shields("...;...;...", "s5n5", "045o;299h;289h", 0, 32 + 1);
        shields("...;...;...", "s5n5", "045o;291o;299h", 0, 32 + 7);
        shields(WIDE, "s4", "193o;299h", 0, 32 + 24);
        shields(WIDE, "s1s4", "193o;291x;291x;291x;291x;291x;291x;299h", 0, 7 * 32 + 24);
        s.says(TERMS, "NONE; -3: it does not anyway.");
        shields(".;.", "n4", "013o", 0, NONE);
        shields(".;.", "n4", "014o;299h", 0, NOT);
        shields("#;.", "n9", "011o;299h", 0, NOT);
        shields(".;.", "n4", "293o;299h", 0, NOT);
        shields(".", "n9n0", "001o", 0, NONE);
        shields(".", "", "001o;299h", 0, NOT);
    }

    private void moveWhat() {
        s.says(TERMS, "MOVE: a wall, and a way (0 n, 1 e, 2 s, 3 w)");
        moves("#.;..", "n9", "021o", 1, 1);
        moves(".#;..", "n9", "031o", 1, 7);
        moves("#;.", "n9", "001o", 1, 2);
        moves(".;#", "s9", "011o", 1, 4);
        moves("..;..", "n9", "021o", 0, NONE);
        s.says(TERMS, "to an open CELL beside it on which nobody stands, to which it is moved");
        moves("##", "n9", "001o", 0, NONE);
        moves("##;..", "n9", "021o;031o", 0, NONE);
        moves("..#;...", "n9", "051o", 1, 4 * 2 + 3);
        moves("#;.", "n9", "011o", 0, NONE);
        moves("#..", "n9", "001o", 1, 1);
        moves("#..", "n9", "001o;019h", 0, NONE);
        moves("...;.#.;...", "n9n9", "002x;029h;041o", 3, 4 * 4 + 1);
    }

    private void moveSoThat() {
        s.says(TERMS, "so that another one is IN behind the last MINUTE");
        moves("#.;..", "n9", "022o;033o", 1, 1);
        moves("#.;..", "n9", "031o;022o", 1, 1);
        moves("#.;..", "n9w9", "021o", 0, NONE);
        moves("#.;..", "n9n1", "021o", 1, 1);
        moves("#.;..", "n9n0", "021o", 0, NONE);
        moves("#.", "", "001o", 0, NONE);
        s.says(TERMS, "(or nobody; a CANDIDATE told on that wall stands there then)");
        moves("#.;..", "n9", "031o", 1, 1);
        moves("#.", "n9", "001o", 1, 1);
        moves("#.", "n9", "005o;001h", 1, 1);
        moves("#.", "n9", "009h", 0, NONE);
        s.says(TERMS, "of like ones the least wall, then the least way: how many such there are; the first, as 4 times the CELL, and the way; NONE.");
        moves(".#.", "n9", "011o", 2, 4 + 1);
        moves("#.#", "n9", "001o;021o", 2, 1);
        moves(".#.#.", "n9", "011o;031o", 4, 4 + 1);
        moves(".....;.....;.....;.....;....#", "n9", "241o", 1, 4 * 24 + 3);
        moves("", "n9", "001o", 0, NONE);
    }

    private void bribeFewest() {
        s.says(TERMS, "BRIBE of a CANDIDATE: the fewest RIBS fewer");
        bribes(".", "n5", "009o", 0, 5);
        bribes(".", "n5", "006o", 0, 2);
        bribes(".", "n5n5", "009o", 0, 4);
        bribes(".", "n9", "001o", 0, 0);
        bribes("..", "n9", "005o;017o", 1, 3);
        bribes("..", "n9", "017o;005o", 0, 2);
        s.says(TERMS, "(1 is left at least)");
        bribes(".", "n2", "009o", 0, 8);
        bribes(".", "n1", "009o", 0, NONE);
        bribes(".", "n1", "001o", 0, NONE);
        bribes(".", "n0", "001x", 0, NONE);
        s.says(TERMS, "by which it is IN behind the last MINUTE; NONE.");
        bribes("..", "n3n9", "001o;015o", 0, NONE);
        bribes("..", "n3n9", "001o;015o", 1, 0);
        bribes("..", "n3n9", "004o;015o", 0, 0);
        bribes(".", "n9n0", "001o", 0, NONE);
        bribes("#", "n9", "001o", 0, NONE);
        bribes(".", "", "001o", 0, NONE);
    }

    private void stand() {
        s.says(15, "STAND: which (what = 0), in which MINUTE (1); NONE.");
        stands("#;.;.;.", "n0n9w9", "015o", 0, 3, 1);
        stands(".", "n4", "004o", 0, NONE, NONE);
        ElectingWind x = Checks.told("..", "n9", "001o");
        x.stand(0, 0);
        s.due("candidate(0, 0) behind stand()", x.candidate(0, 0), 0);
        s.says(15, "BAD.");
        for (int k : new int[] {-1, 1, 8, Integer.MIN_VALUE, Integer.MAX_VALUE}) s.due("stand(" + k + ", 0)", x.stand(k, 0), BAD);
        for (int what : new int[] {-1, 2, Integer.MIN_VALUE, Integer.MAX_VALUE}) s.due("stand(0, " + what + ")", x.stand(0, what), BAD);
    }

    private void shield() {
        s.says(16, "SHIELD; NONE; NOT.");
        shields(".;.", "n4", "013o;299h", 0, 32);
        shields(".;.", "n4", "013o", 0, NONE);
        shields(".;.", "n4", "014o;299h", 0, NOT);
        ElectingWind x = Checks.told(".;.", "n4", "013o;299h");
        x.shield(0);
        s.due("candidate(1, 0) behind shield()", x.candidate(1, 0), 29);
        s.says(16, "BAD.");
        for (int k : new int[] {-1, 2, 8, Integer.MIN_VALUE, Integer.MAX_VALUE}) s.due("shield(" + k + ")", x.shield(k), BAD);
        s.due("shield(0) without CANDIDATES", Checks.told(".", "n9", "").shield(0), BAD);
    }

    private void move() {
        s.says(17, "MOVE: how many (what = 0), the first (1; NONE).");
        moves(".#.", "n9", "011o", 2, 5);
        moves(".", "n9", "001o", 0, NONE);
        moves("", "", "", 0, NONE);
        ElectingWind x = Checks.told(".#.", "n9", "011o");
        x.move(0);
        s.due("cell(1) behind move()", x.cell(1), 1);
        s.due("in(0) behind move()", x.in(0), NONE);
        s.says(17, "BAD.");
        for (int what : new int[] {-1, 2, Integer.MIN_VALUE, Integer.MAX_VALUE}) s.due("move(" + what + ")", x.move(what), BAD);
    }

    private void bribe() {
        s.says(18, "BRIBE; NONE.");
        bribes(".", "n8", "009o", 0, 2);
        bribes(".", "n1", "009o", 0, NONE);
        ElectingWind x = Checks.told(".", "n5", "009o");
        x.bribe(0);
        s.due("candidate(0, 1) behind bribe()", x.candidate(0, 1), 9);
        s.says(18, "BAD.");
        for (int k : new int[] {-1, 1, 8, Integer.MIN_VALUE, Integer.MAX_VALUE}) s.due("bribe(" + k + ")", x.bribe(k), BAD);
        s.due("bribe(0) without CANDIDATES", Checks.told(".", "n9", "").bribe(0), BAD);
    }
}
