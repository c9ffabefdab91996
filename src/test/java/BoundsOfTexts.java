/** Sentences on the corner, the gusts and the candidates: Terms 1, promises 1 to 8. */
final class BoundsOfTexts {
    private static final int TERMS = Sentences.TERMS, NONE = Sentences.NONE, BAD = Sentences.BAD, NOT = Sentences.NOT,
        FULL = Sentences.FULL;
    private static final String FIVE_BY_FIVE = "#...#;#....;.....;.....;....#";
    private static final String TWELVE = "n1e2s3w4n5e6s7w8n9e0s1w2";
    private static final String EIGHT = "001h;011h;021h;031h;041h;051h;061h;241x";

    private final Sentences s;

    BoundsOfTexts(Sentences s) { this.s = s; }

    void all() {
        theCorner();
        theGusts();
        theCandidates();
        faults();
        faultsOfRows();
        withAFault();
        nowhere();
        newObject();
        type();
        wipe();
        undo();
        fault();
        cell();
        gust();
        candidate();
    }

    /** How a text takes its last byte and the one beyond it; the others stay as they are. */
    private void limit(int text, int most, char b) {
        ElectingWind x = new ElectingWind();
        for (int k = 1; k < most; k++) x.type(text, b);
        s.due("type, the last but one", x.count(3 + text), most - 1);
        s.due("type, the last", x.type(text, b), most);
        s.due("type beyond it", x.type(text, b), FULL);
        for (int other = 0; other < 3; other++) s.due("count(" + (3 + other) + ")", x.count(3 + other), other == text ? most : 0);
    }

    private void theCorner() {
        s.says(TERMS, "THE CORNER is a text of up to 29 bytes (text 0)");
        limit(0, 29, '.');
        s.says(TERMS, "ROWS, 5 at most, with ; between them");
        s.fault(0, ".", NONE, 1);
        s.fault(0, ".;#;.;#;.", NONE, 5);
        s.fault(0, ".;#;.;#;.;#", 10, 0);
        s.fault(0, ";.", 0, 0);
        s.fault(0, ".;;.", 2, 0);
        s.fault(0, "..,..", 2, 0);
        s.says(TERMS, "each of as many CELLS (1 to 5) as the first one");
        s.fault(0, ";", 0, 0);
        s.fault(0, "#", NONE, 1);
        s.fault(0, "#;.", NONE, 2);
        s.fault(0, ".....", NONE, 5);
        s.fault(0, "......", 5, 0);
        s.fault(0, ".....;.....", NONE, 10);
        s.fault(0, ".....;....", 10, 0);
        s.fault(0, "....;.....", 9, 0);
        s.fault(0, "..;..;..", NONE, 6);
        s.says(TERMS, ". (open) or # (a wall)");
        ElectingWind x = Checks.told(".#", "", "");
        s.due("cell(0) of .#", x.cell(0), 0);
        s.due("cell(1) of .#", x.cell(1), 1);
        int[] others = {0, ' ', '"', '$', '-', '/', '0', ':', 'o', 'x', 127, 128, 163, 174, 255};
        for (int b : others) s.fault(0, "." + (char) b, 1, 0);
        s.says(TERMS, "CELLS are numbered from 0 on, as they come (0 to 24).");
        x = Checks.told(FIVE_BY_FIVE, "", "");
        for (int cell = 0; cell < 25; cell++) {
            s.due("cell(" + cell + ")", x.cell(cell), cell == 0 || cell == 4 || cell == 5 || cell == 24 ? 1 : 0);
        }
        s.due("cell(25)", x.cell(25), BAD);
        s.due("cell(-1)", x.cell(-1), BAD);
    }

    private void theGusts() {
        s.says(TERMS, "GUSTS are a text of up to 24 bytes (text 1), 12 at most");
        limit(1, 24, 'n');
        s.fault(1, TWELVE, NONE, 12);
        s.says(TERMS, "one for each MINUTE (0 on)");
        ElectingWind x = Checks.told("", TWELVE, "");
        s.due("gust(0, 1)", x.gust(0, 1), 1);
        s.due("gust(11, 1)", x.gust(11, 1), 2);
        s.due("gust(12, 1)", x.gust(12, 1), BAD);
        s.fault(1, "n1", NONE, 1);
        s.says(TERMS, "n, e, s or w, from where it blows, and a figure, its FORCE (0 to 9).");
        for (String well : new String[] {"n0", "e9", "s0", "w9"}) s.fault(1, well, NONE, 1);
        for (char b : "mofdrtvxNESW1;".toCharArray()) s.fault(1, b + "1", 0, 0);
        for (char b : "/:;n-".toCharArray()) s.fault(1, "n" + b, 1, 0);
    }

    private void theCandidates() {
        s.says(TERMS, "CANDIDATES are a text of up to 39 bytes (text 2), 8 at most (0 on), with ; between them");
        limit(2, 39, '0');
        s.fault(2, EIGHT, NONE, 8);
        s.fault(2, "001h", NONE, 1);
        s.fault(2, "001h011h", 4, 0);
        s.fault(2, "001h,011h", 4, 0);
        s.fault(2, "001h;;011h", 5, 0);
        s.fault(2, ";001h", 0, 0);
        s.says(TERMS, "a figure 0 to 2 and a figure, the CELL on which it stands (00 to 29)");
        for (String well : new String[] {"001h", "091h", "201h", "291h"}) s.fault(2, well, NONE, 1);
        s.fault(2, "301h", 0, 0);
        s.fault(2, "/01h", 0, 0);
        s.fault(2, "0/1h", 1, 0);
        s.fault(2, "2:1h", 1, 0);
        s.due("the CELL of 291h", Checks.told("", "", "291h").candidate(0, 0), 29);
        s.says(TERMS, "a figure, its RIBS (1 to 9)");
        s.fault(2, "001h", NONE, 1);
        s.fault(2, "009h", NONE, 1);
        s.fault(2, "000h", 2, 0);
        s.fault(2, "00:h", 2, 0);
        s.says(TERMS, "and h (held low), o (upright) or x (held across).");
        for (String well : new String[] {"001h", "001o", "001x"}) s.fault(2, well, NONE, 1);
        for (char b : "ginpwyHOX0;".toCharArray()) s.fault(2, "001" + b, 3, 0);
    }

    private void faults() {
        s.says(TERMS, "The FAULT of a text is the place of the first byte with which it cannot go on");
        s.fault(0, "x..;..", 0, 0);
        s.fault(0, ".x.;.x", 1, 0);
        s.fault(0, "..;.x;x", 4, 0);
        s.fault(1, "x1n1", 0, 0);
        s.fault(1, "n1nx;", 3, 0);
        s.fault(2, "001h;011k;x", 8, 0);
        s.says(TERMS, "(an empty one is well");
        for (int text = 0; text < 3; text++) {
            ElectingWind x = new ElectingWind();
            s.due("fault of an empty one", x.fault(text), NONE);
            x.type(text, 'y');
            x.undo(text);
            s.due("fault of one undone", x.fault(text), NONE);
            x.type(text, 'y');
            x.wipe(text);
            s.due("fault of one wiped", x.fault(text), NONE);
        }
        s.says(TERMS, "of one that is not ended");
        s.fault(0, ".;", 2, 0);
        s.fault(0, "..;..;", 6, 0);
        s.fault(1, "n", 1, 0);
        s.fault(1, "n1e2s3w4n5e6s7w8n9e0s1w", 23, 0);
        s.fault(2, "0", 1, 0);
        s.fault(2, "00", 2, 0);
        s.fault(2, "001", 3, 0);
        s.fault(2, "001h;", 5, 0);
        s.fault(2, "001h;0", 6, 0);
        s.fault(2, EIGHT.substring(0, 38), 38, 0);
    }

    private void faultsOfRows() {
        s.says(TERMS, "or of a ROW that is too short, its end, or its ;)");
        s.fault(0, "..;.", 4, 0);
        s.fault(0, ".....;....", 10, 0);
        s.fault(0, "..;.;", 4, 0);
        s.fault(0, "..;.;..", 4, 0);
        s.fault(0, "..;..;.", 7, 0);
        s.fault(0, "..;;..", 3, 0);
        s.says(TERMS, "here also of a CELL too many");
        s.fault(0, "......", 5, 0);
        s.fault(0, "#####.;", 5, 0);
        s.fault(0, ".;..", 3, 0);
        s.fault(0, "..;...", 5, 0);
        s.fault(0, "..;..;..#", 8, 0);
        s.fault(0, FIVE_BY_FIVE, NONE, 25);
        s.says(TERMS, "of the first byte of a sixth ROW");
        s.fault(0, ".;.;.;.;.", NONE, 5);
        s.fault(0, ".;.;.;.;.;", 10, 0);
        for (char b : ".#;x".toCharArray()) s.fault(0, ".;.;.;.;.;" + b, 10, 0);
        s.fault(0, "....;....;....;....;....;", 25, 0);
        s.fault(0, "....;....;....;....;....;....", 25, 0);
        s.says(TERMS, "of a thirteenth GUST, of a ninth CANDIDATE");
        ElectingWind x = Checks.told("", TWELVE, EIGHT);
        s.due("type, a thirteenth GUST", x.type(1, 'n'), FULL);
        s.due("fault(1)", x.fault(1), NONE);
        s.due("count(1)", x.count(1), 12);
        s.due("type, a ninth CANDIDATE", x.type(2, ';'), FULL);
        s.due("fault(2)", x.fault(2), NONE);
        s.due("count(2)", x.count(2), 8);
    }

    private void withAFault() {
        s.says(TERMS, "With a FAULT a text is as if it was empty.");
        ElectingWind x = Checks.told("#.;..", "n9", "015o");
        s.due("in(0)", x.in(0), 0);
        x.type(0, ';');
        s.due("cell(0)", x.cell(0), NONE);
        s.due("candidate(0, 3)", x.candidate(0, 3), 0);
        s.due("in(0)", x.in(0), NONE);
        s.due("wind(0, 0)", x.wind(0, 0), BAD);
        s.due("count(3)", x.count(3), 6);
        x.undo(0);
        s.due("in(0), mended", x.in(0), 0);
        x.type(1, 'n');
        s.due("in(0)", x.in(0), BAD);
        s.due("gust(0, 0)", x.gust(0, 0), BAD);
        s.due("lulls()", x.lulls(), 0);
        s.due("count(4)", x.count(4), 3);
        x.undo(1);
        s.due("in(0), mended", x.in(0), 0);
        x.type(2, ';');
        s.due("in(0)", x.in(0), NONE);
        s.due("candidate(0, 0)", x.candidate(0, 0), BAD);
        s.due("count(5)", x.count(5), 5);
        x.undo(2);
        s.due("in(0), mended", x.in(0), 0);
    }

    private void nowhere() {
        s.says(TERMS, "A CANDIDATE whose CELL there is not, or is a wall, is NOWHERE.");
        ElectingWind x = Checks.told(".#;..", "", "001h;011h;021h;031h;041h;291h");
        int[] somewhere = {1, 0, 1, 1, 0, 0};
        for (int k = 0; k < 6; k++) s.due("candidate(" + k + ", 3)", x.candidate(k, 3), somewhere[k]);
        x = Checks.told(FIVE_BY_FIVE, "", "001h;231h;241h;251h");
        int[] ofMany = {0, 1, 0, 0};
        for (int k = 0; k < 4; k++) s.due("candidate(" + k + ", 3)", x.candidate(k, 3), ofMany[k]);
        s.due("candidate(0, 3) without CELLS", Checks.told("", "", "001h").candidate(0, 3), 0);
    }

    private void newObject() {
        s.says(1, "No CELLS, no GUSTS, no CANDIDATES");
        ElectingWind x = new ElectingWind();
        for (int what = 0; what <= 8; what++) s.due("count(" + what + ")", x.count(what), 0);
        for (int cell = 0; cell < 25; cell++) s.due("cell(" + cell + ")", x.cell(cell), NONE);
        s.due("gust(0, 0)", x.gust(0, 0), BAD);
        s.due("candidate(0, 0)", x.candidate(0, 0), BAD);
        for (int text = 0; text < 3; text++) {
            s.due("fault(" + text + ")", x.fault(text), NONE);
            s.due("wipe(" + text + ")", x.wipe(text), 0);
            s.due("undo(" + text + ")", x.undo(text), NOT);
        }
        s.says(1, "all SHEETS are LOST");
        for (int k = 0; k < 4; k++) s.due("lose(" + k + ")", new ElectingWind().lose(k), Sentences.NULL);
    }

    private void type() {
        s.says(2, "A byte (0 to 255) comes behind a text: how many.");
        for (int text = 0; text < 3; text++) {
            ElectingWind x = new ElectingWind();
            s.due("type(" + text + ", 0)", x.type(text, 0), 1);
            s.due("type(" + text + ", 255)", x.type(text, 255), 2);
            s.due("count", x.count(3 + text), 2);
        }
        ElectingWind x = new ElectingWind();
        s.due("type(0, #)", x.type(0, '#'), 1);
        s.due("type(0, .)", x.type(0, '.'), 2);
        s.due("cell(0)", x.cell(0), 1);
        s.due("cell(1)", x.cell(1), 0);
        s.says(2, "BAD; FULL.");
        for (int text : new int[] {-1, 3, Integer.MIN_VALUE, Integer.MAX_VALUE}) s.due("type(" + text + ", 46)", x.type(text, 46), BAD);
        for (int b : new int[] {-1, 256, Integer.MIN_VALUE, Integer.MAX_VALUE}) s.due("type(0, " + b + ")", x.type(0, b), BAD);
        int[] most = {29, 24, 39};
        for (int text = 0; text < 3; text++) {
            for (int k = x.count(3 + text); k < most[text]; k++) x.type(text, 'y');
            s.due("type of a full one", x.type(text, '.'), FULL);
            s.due("type of a full one, a byte that is none", x.type(text, 256), BAD);
            s.due("type of a full one, a byte that is none", x.type(text, -1), BAD);
        }
    }

    private void wipe() {
        s.says(3, "A text is empty: how many bytes it had.");
        int[] most = {29, 24, 39};
        for (int text = 0; text < 3; text++) {
            ElectingWind x = new ElectingWind();
            s.due("wipe of an empty one", x.wipe(text), 0);
            x.type(text, 'y');
            s.due("wipe of one byte", x.wipe(text), 1);
            for (int k = x.count(3 + text); k < most[text]; k++) x.type(text, 'y');
            s.due("wipe of a full one", x.wipe(text), most[text]);
            s.due("count", x.count(3 + text), 0);
            s.due("fault", x.fault(text), NONE);
            s.due("type behind it", x.type(text, 'y'), 1);
        }
        ElectingWind x = Checks.told("..", "n1", "001h");
        x.wipe(1);
        s.due("count(0), of another one", x.count(0), 2);
        s.due("count(1)", x.count(1), 0);
        s.due("count(2), of another one", x.count(2), 1);
        s.says(3, "BAD.");
        for (int text : new int[] {-1, 3, Integer.MIN_VALUE, Integer.MAX_VALUE}) s.due("wipe(" + text + ")", x.wipe(text), BAD);
    }

    private void undo() {
        s.says(4, "The last byte of a text is undone: how many are left.");
        ElectingWind x = Checks.told(".#;", "n1e", "001h;");
        for (int text = 0; text < 3; text++) s.due("undo(" + text + ")", x.undo(text), text == 2 ? 4 : 2);
        for (int text = 0; text < 3; text++) s.due("count(" + text + ")", x.count(text), text == 0 ? 2 : 1);
        s.due("cell(1), still there", x.cell(1), 1);
        s.due("undo(0)", x.undo(0), 1);
        s.due("cell(0), still there", x.cell(0), 0);
        s.due("cell(1), undone", x.cell(1), NONE);
        s.due("undo(0), the only one", x.undo(0), 0);
        ElectingWind full = new ElectingWind();
        for (int k = 0; k < 24; k++) full.type(1, 'y');
        s.due("undo(1) of a full one", full.undo(1), 23);
        s.due("type behind it", full.type(1, 'y'), 24);
        s.says(4, "BAD; NOT: it is empty.");
        for (int text = 0; text < 3; text++) s.due("undo(" + text + ") of an empty one", new ElectingWind().undo(text), NOT);
        s.due("undo(0) of one undone", x.undo(0), NOT);
        for (int text : new int[] {-1, 3, Integer.MIN_VALUE, Integer.MAX_VALUE}) s.due("undo(" + text + ")", x.undo(text), BAD);
    }

    private void fault() {
        s.says(5, "The FAULT of a text; NONE.");
        ElectingWind x = Checks.told("..;", "n1", "001h:");
        s.due("fault(0)", x.fault(0), 3);
        s.due("fault(1)", x.fault(1), NONE);
        s.due("fault(2)", x.fault(2), 4);
        s.says(5, "BAD.");
        for (int text : new int[] {-1, 3, Integer.MIN_VALUE, Integer.MAX_VALUE}) s.due("fault(" + text + ")", x.fault(text), BAD);
    }

    private void cell() {
        s.says(6, "What a CELL (0 to 24) is: 0 open, 1 a wall");
        ElectingWind x = Checks.told(FIVE_BY_FIVE, "", "");
        s.due("cell(0)", x.cell(0), 1);
        s.due("cell(1)", x.cell(1), 0);
        s.due("cell(23)", x.cell(23), 0);
        s.due("cell(24)", x.cell(24), 1);
        s.says(6, "NONE: there is no such CELL.");
        Checks.tell(x, 0, ".#;#.");
        s.due("cell(3)", x.cell(3), 0);
        s.due("cell(4)", x.cell(4), NONE);
        s.due("cell(24)", x.cell(24), NONE);
        s.due("cell(0) of a new object", new ElectingWind().cell(0), NONE);
        s.says(6, "BAD.");
        for (int cell : new int[] {-1, 25, Integer.MIN_VALUE, Integer.MAX_VALUE}) s.due("cell(" + cell + ")", x.cell(cell), BAD);
    }

    private void gust() {
        s.says(7, "From where (what = 0), FORCE (1) in a MINUTE that there is.");
        ElectingWind x = Checks.told("", "n0e9s5w1", "");
        int[] forces = {0, 9, 5, 1};
        for (int m = 0; m < 4; m++) {
            s.due("gust(" + m + ", 0)", x.gust(m, 0), m);
            s.due("gust(" + m + ", 1)", x.gust(m, 1), forces[m]);
        }
        s.says(7, "BAD.");
        for (int m : new int[] {-1, 4, 12, Integer.MIN_VALUE, Integer.MAX_VALUE}) s.due("gust(" + m + ", 0)", x.gust(m, 0), BAD);
        for (int what : new int[] {-1, 2, Integer.MIN_VALUE, Integer.MAX_VALUE}) s.due("gust(0, " + what + ")", x.gust(0, what), BAD);
        s.due("gust(0, 0) without MINUTES", new ElectingWind().gust(0, 0), BAD);
    }

    private void candidate() {
        s.says(8, "The CELL as told (what = 0), RIBS (1), how it is held (2: 0 h, 1 o, 2 x), whether it is somewhere (3: 1, 0) of a CANDIDATE.");
        ElectingWind x = Checks.told(".#", "", "001h;019o;295x");
        int[][] due = {{0, 1, 0, 1}, {1, 9, 1, 0}, {29, 5, 2, 0}};
        for (int k = 0; k < 3; k++) {
            for (int what = 0; what < 4; what++) s.due("candidate(" + k + ", " + what + ")", x.candidate(k, what), due[k][what]);
        }
        s.says(8, "BAD.");
        for (int k : new int[] {-1, 3, 8, Integer.MIN_VALUE, Integer.MAX_VALUE}) s.due("candidate(" + k + ", 0)", x.candidate(k, 0), BAD);
        for (int what : new int[] {-1, 4, Integer.MIN_VALUE, Integer.MAX_VALUE}) s.due("candidate(0, " + what + ")", x.candidate(0, what), BAD);
        s.due("candidate(0, 0) without CANDIDATES", new ElectingWind().candidate(0, 0), BAD);
    }
}
