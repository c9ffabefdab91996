/** Promises 15 to 18: where to stand, whom to place, which wall to move, how many ribs to bribe. */
public final class PlanTest {
    private static final int NONE = ElectingWind.NONE, BAD = ElectingWind.BAD, NOT = ElectingWind.NOT;
    private static final Checks c = new Checks("PlanTest");

    private static void standOf(String corner, String gusts, String candidates, int who, int cell, int minute) {
        ElectingWind x = Checks.told(corner, gusts, candidates);
        String where = " of " + who + " in " + corner + " " + gusts + " " + candidates;
        c.due("stand: which" + where, x.stand(who, 0), cell);
        c.due("stand: when" + where, x.stand(who, 1), minute);
    }

    private static void stand() {
        c.promise(15);
        standOf("#;.;.;.", "n9w9", "015o", 0, 3, 0);
        standOf("#;.;.;.", "n9w9", "015o;039h", 0, 1, 1);
        standOf("#;.;.;.", "n9", "035o", 0, 3, 0);
        standOf("..", "n9", "015o", 0, 0, 0);
        standOf("..", "n9", "009h;015o", 1, 1, 0);
        standOf("..", "n9", "295o;009h", 0, 1, 0);
        standOf("..", "n9", "299h", 0, NONE, NONE);
        standOf("#.", "n9", "005o", 0, 1, 0);
        standOf(".", "n9", "001o;009h", 0, NONE, NONE);
        standOf(".", "n9n0", "001o", 0, 0, 0);
        standOf(".", "n1n2n3", "001x", 0, 0, 0);
        standOf(".", "n0n2n3", "003x", 0, 0, 1);
        standOf(".", "", "001x", 0, NONE, NONE);
        standOf("", "n9", "001x", 0, NONE, NONE);
        ElectingWind x = Checks.told(".", "n9", "001o");
        c.due("stand leaves all as it was", x.candidate(0, 0), 0);
        c.due("stand(1, 0)", x.stand(1, 0), BAD);
        c.due("stand(-1, 0)", x.stand(-1, 0), BAD);
        c.due("stand(0, 2)", x.stand(0, 2), BAD);
        c.due("stand(0, -1)", x.stand(0, -1), BAD);
    }

    private static void shieldOf(String corner, String gusts, String candidates, int who, int due) {
        ElectingWind x = Checks.told(corner, gusts, candidates);
        c.due("shield(" + who + ") in " + corner + " " + gusts + " " + candidates, x.shield(who), due);
    }

    private static void shield() {
        c.promise(16);
        shieldOf(".;.", "n4", "013o;299h", 0, 32);
        shieldOf(".;.", "n4", "299h;013o", 1, 0);
        shieldOf(".;.", "n4", "299h;289h;013o", 2, 0);
        shieldOf(".;.", "n4", "013o", 0, NONE);
        shieldOf(".;.", "n4", "014o;299h", 0, NOT);
        shieldOf(".;.", "n4", "293o;299h", 0, NOT);
        shieldOf(".;.", "n9", "013o;299h", 0, NONE);
        // in two minutes the shield must not turn itself
        shieldOf(".;.", "n4n4", "013o;291x", 0, NONE);
        shieldOf(".;.", "n4n4", "013o;291x;299h", 0, 64);
        // in place of the other one's own cell: the lee that it gave is gone
        shieldOf("..;..", "n6", "019h;039o;025o", 2, 0);
        shieldOf("..;..", "n6", "025o;019h", 0, 32);
        // no cell but an open one on which nobody stands
        shieldOf("#.;.#", "n4", "013o;299h", 0, NONE);
        shieldOf("...", "w4", "023o;299h", 0, 33);
        ElectingWind x = Checks.told(".;.", "n4", "013o;299h");
        c.due("shield(2)", x.shield(2), BAD);
        c.due("shield(-1)", x.shield(-1), BAD);
        x.shield(0);
        c.due("shield leaves all as it was", x.candidate(1, 3), 0);
    }

    private static void moveOf(String corner, String gusts, String candidates, int many, int first) {
        ElectingWind x = Checks.told(corner, gusts, candidates);
        String where = " in " + corner + " " + gusts + " " + candidates;
        c.due("move: how many" + where, x.move(0), many);
        c.due("move: the first" + where, x.move(1), first);
    }

    private static void move() {
        c.promise(17);
        moveOf("#.;..", "n9", "021o", 1, 1);
        moveOf(".#;..", "n9", "021o", 1, 7);
        moveOf("#;.", "n9", "011o", 0, NONE);
        moveOf("#.", "n9", "001o", 1, 1);
        moveOf(".#", "n9", "011o", 1, 7);
        moveOf("#;.", "n9", "001o", 1, 2);
        moveOf(".;#", "s9", "011o", 1, 4);
        moveOf(".;#", "n9", "011o", 0, NONE);
        moveOf(".#.", "n9", "011o", 2, 5);
        moveOf("#.", "", "001o", 0, NONE);
        moveOf("##", "n9", "001o", 0, NONE);
        moveOf("..", "n9", "001o", 0, NONE);
        moveOf("", "n9", "001o", 0, NONE);
        // another one in place of one: ribs 2 and 3, the wall goes from the one to the other
        moveOf("#.;..", "n9", "022o;033o", 1, 1);
        ElectingWind x = Checks.told("#.;..", "n9", "021o");
        x.move(0);
        c.due("move leaves the wall", x.cell(0), 1);
        c.due("move(-1)", x.move(-1), BAD);
        c.due("move(2)", x.move(2), BAD);
    }

    private static void bribeOf(String corner, String gusts, String candidates, int who, int due) {
        ElectingWind x = Checks.told(corner, gusts, candidates);
        c.due("bribe(" + who + ") in " + corner + " " + gusts + " " + candidates, x.bribe(who), due);
    }

    private static void bribe() {
        c.promise(18);
        bribeOf(".", "n5", "009o", 0, 5);
        bribeOf(".", "n5n5", "009o", 0, 4);
        bribeOf(".", "n9", "001o", 0, 0);
        bribeOf(".", "n1", "002o", 0, NONE);
        bribeOf(".", "n2", "002o", 0, 1);
        bribeOf(".", "n0", "009o", 0, NONE);
        bribeOf(".", "n9n0", "009o", 0, NONE);
        bribeOf("..", "n9", "005o;017o", 1, 3);
        bribeOf("..", "n9", "005o;017o", 0, 0);
        bribeOf("..", "n9", "017o;005o", 0, 2);
        bribeOf("#", "n9", "009o", 0, NONE);
        ElectingWind x = Checks.told(".", "n5", "009o");
        x.bribe(0);
        c.due("bribe leaves the ribs", x.candidate(0, 1), 9);
        c.due("bribe(1)", x.bribe(1), BAD);
        c.due("bribe(-1)", x.bribe(-1), BAD);
    }

    public static void main(String[] args) {
        stand();
        shield();
        move();
        bribe();
        c.end();
    }
}
