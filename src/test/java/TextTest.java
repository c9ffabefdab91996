/** Promises 1 to 8: a new object, and the corner, gusts and candidates as texts. */
public final class TextTest {
    private static final int NONE = ElectingWind.NONE, BAD = ElectingWind.BAD, NOT = ElectingWind.NOT, FULL = ElectingWind.FULL;
    private static final Checks c = new Checks("TextTest");

    private static void newObject() {
        c.promise(1);
        ElectingWind x = new ElectingWind();
        for (int what = 0; what <= 8; what++) c.due("count(" + what + ")", x.count(what), 0);
        for (int text = 0; text < 3; text++) c.due("fault(" + text + ")", x.fault(text), NONE);
        for (int s = 0; s < 4; s++) c.due("lose(" + s + ")", x.lose(s), -11);
        c.due("forget()", x.forget(), 0);
        c.due("NONE", NONE, -1);
        c.due("BAD", BAD, -2);
        c.due("NOT", NOT, -3);
        c.due("FULL", FULL, -4);
    }

    private static void typing() {
        c.promise(2);
        int[] most = {29, 24, 39};
        for (int text = 0; text < 3; text++) {
            ElectingWind x = new ElectingWind();
            for (int k = 1; k <= most[text]; k++) c.due("type", x.type(text, k == 1 ? 0 : k == 2 ? 255 : 'y'), k);
            c.due("type beyond the limit", x.type(text, 'y'), FULL);
            c.due("type BAD ahead of FULL", x.type(text, 256), BAD);
            c.due("bytes", x.count(3 + text), most[text]);
        }
        ElectingWind x = new ElectingWind();
        c.due("type(-1, 46)", x.type(-1, 46), BAD);
        c.due("type(3, 46)", x.type(3, 46), BAD);
        c.due("type(0, -1)", x.type(0, -1), BAD);
        c.due("type(0, 256)", x.type(0, 256), BAD);
        c.due("count(3) behind refusals", x.count(3), 0);
    }

    private static void wiping() {
        c.promise(3);
        ElectingWind x = Checks.told("..;..", "n1e2", "001h");
        c.due("wipe(0)", x.wipe(0), 5);
        c.due("wipe(1)", x.wipe(1), 4);
        c.due("wipe(2)", x.wipe(2), 4);
        c.due("wipe(2) again", x.wipe(2), 0);
        for (int what = 0; what <= 5; what++) c.due("count(" + what + ")", x.count(what), 0);
        c.due("wipe(-1)", x.wipe(-1), BAD);
        c.due("wipe(3)", x.wipe(3), BAD);
    }

    private static void undoing() {
        c.promise(4);
        ElectingWind x = Checks.told("..;.", "n1e", "001h;");
        c.due("fault(0)", x.fault(0), 4);
        c.due("undo(0)", x.undo(0), 3);
        c.due("undo(0)", x.undo(0), 2);
        c.due("fault(0) behind undo", x.fault(0), NONE);
        c.due("count(0) behind undo", x.count(0), 2);
        c.due("undo(1)", x.undo(1), 2);
        c.due("count(1) behind undo", x.count(1), 1);
        c.due("undo(2)", x.undo(2), 4);
        c.due("count(2) behind undo", x.count(2), 1);
        c.due("undo(1)", x.undo(1), 1);
        c.due("undo(1)", x.undo(1), 0);
        c.due("undo(1) of an empty one", x.undo(1), NOT);
        c.due("undo(-1)", x.undo(-1), BAD);
        c.due("undo(3)", x.undo(3), BAD);
    }

    private static void faultOf(int text, String bytes, int due) {
        ElectingWind x = new ElectingWind();
        Checks.tell(x, text, bytes);
        c.due("fault of " + bytes, x.fault(text), due);
        if (due != NONE) c.due("with a fault as if empty: " + bytes, x.count(text), 0);
    }

    private static void faults() {
        c.promise(5);
        String[] wellCorners = {"", ".", "#", ".....", ".;#;.;#;.", ".....;#####;.....;#####;....."};
        for (String t : wellCorners) faultOf(0, t, NONE);
        faultOf(0, "x", 0);
        faultOf(0, ";", 0);
        faultOf(0, ".;", 2);
        faultOf(0, ".;;", 2);
        faultOf(0, "..;.", 4);
        faultOf(0, "..;.;", 4);
        faultOf(0, "..;.;..", 4);
        faultOf(0, "..;.x", 4);
        faultOf(0, "..;...", 5);
        faultOf(0, "..;..x", 5);
        faultOf(0, "......", 5);
        faultOf(0, "..x", 2);
        faultOf(0, ".;.;.;.;.;", 10);
        faultOf(0, ".;.;.;.;.;.", 10);
        faultOf(0, ".;.;.;.;.;;", 10);
        String[] wellGusts = {"", "n0", "e9s5w1n3", "n1e2s3w4n5e6s7w8n9e0s1w2"};
        for (String t : wellGusts) faultOf(1, t, NONE);
        faultOf(1, "N1", 0);
        faultOf(1, "1", 0);
        faultOf(1, "n", 1);
        faultOf(1, "nn", 1);
        faultOf(1, "n:", 1);
        faultOf(1, "n1;", 2);
        faultOf(1, "n1e", 3);
        faultOf(1, "n1e2s3w4n5e6s7w8n9e0s1w", 23);
        String[] wellCandidates = {"", "001h", "299x;009o", "001h;011h;021h;031h;041h;051h;061h;071h"};
        for (String t : wellCandidates) faultOf(2, t, NONE);
        faultOf(2, "3", 0);
        faultOf(2, "/", 0);
        faultOf(2, "0", 1);
        faultOf(2, "0x", 1);
        faultOf(2, "00", 2);
        faultOf(2, "000h", 2);
        faultOf(2, "00:h", 2);
        faultOf(2, "001", 3);
        faultOf(2, "001n", 3);
        faultOf(2, "001h0", 4);
        faultOf(2, "001h;", 5);
        faultOf(2, "001h;;", 5);
        faultOf(2, "001h;29", 7);
        ElectingWind x = new ElectingWind();
        c.due("fault(-1)", x.fault(-1), BAD);
        c.due("fault(3)", x.fault(3), BAD);
    }

    private static void cells() {
        c.promise(6);
        ElectingWind x = Checks.told(".#.;#..", "", "");
        int[] due = {0, 1, 0, 1, 0, 0, NONE};
        for (int cell = 0; cell < due.length; cell++) c.due("cell(" + cell + ")", x.cell(cell), due[cell]);
        c.due("cell(24)", x.cell(24), NONE);
        c.due("cell(-1)", x.cell(-1), BAD);
        c.due("cell(25)", x.cell(25), BAD);
        x.type(0, ';');
        c.due("cell(0) with a fault", x.cell(0), NONE);
        Checks.tell(x, 0, ".....;.....;.....;.....;....#");
        c.due("cell(24) of 25", x.cell(24), 1);
    }

    private static void gusts() {
        c.promise(7);
        ElectingWind x = Checks.told("", "n0e9s5w1", "");
        int[] forces = {0, 9, 5, 1};
        for (int m = 0; m < 4; m++) {
            c.due("gust(" + m + ", 0)", x.gust(m, 0), m);
            c.due("gust(" + m + ", 1)", x.gust(m, 1), forces[m]);
        }
        c.due("gust(4, 0)", x.gust(4, 0), BAD);
        c.due("gust(-1, 0)", x.gust(-1, 0), BAD);
        c.due("gust(0, 2)", x.gust(0, 2), BAD);
        c.due("gust(0, -1)", x.gust(0, -1), BAD);
        x.undo(1);
        c.due("gust(0, 0) with a fault", x.gust(0, 0), BAD);
    }

    private static void candidates() {
        c.promise(8);
        ElectingWind x = Checks.told(".#;..", "", "001h;019o;045x;033o;295h;001x");
        int[][] due = {{0, 1, 0, 1}, {1, 9, 1, 0}, {4, 5, 2, 0}, {3, 3, 1, 1}, {29, 5, 0, 0}, {0, 1, 2, 1}};
        for (int k = 0; k < due.length; k++) {
            for (int what = 0; what < 4; what++) {
                c.due("candidate(" + k + ", " + what + ")", x.candidate(k, what), due[k][what]);
            }
        }
        c.due("candidate(6, 0)", x.candidate(6, 0), BAD);
        c.due("candidate(-1, 0)", x.candidate(-1, 0), BAD);
        c.due("candidate(0, 4)", x.candidate(0, 4), BAD);
        c.due("candidate(0, -1)", x.candidate(0, -1), BAD);
        Checks.tell(x, 0, "..;.;");
        c.due("candidate(0, 3): a corner with a fault", x.candidate(0, 3), 0);
        x.type(2, ';');
        c.due("candidate(0, 0) with a fault", x.candidate(0, 0), BAD);
    }

    public static void main(String[] args) {
        newObject();
        typing();
        wiping();
        undoing();
        faults();
        cells();
        gusts();
        candidates();
        c.end();
    }
}
