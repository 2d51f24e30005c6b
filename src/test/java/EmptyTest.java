/** No TOWERS, TOWERS without HOUSES, ROWS and TEXTS of size 0, what is missing, a place in which no ROCK is kept. */
public final class EmptyTest {
    private static final int MAX = Integer.MAX_VALUE;
    private static final int BAD = Check.BAD, STATE = Check.STATE, NONE = Check.NONE;
    private static final int NOTHING = Check.NOTHING, BEYOND = Check.BEYOND, NOUGHT = Check.NOUGHT, SIZE = Check.SIZE;
    private static final Check c = new Check();

    public static void main(String[] args) {
        toldBefore();
        noTowers();
        noTowersAsked();
        noHouses();
        noHousesAsked();
        towerWithoutHouses();
        lastHouseLeaves();
        rowOfNone();
        missingRow();
        textOfNone();
        missingText();
        noneKept();
        c.end();
    }

    /** asked() tells 77. */
    private static RoofLent on(String rock) {
        RoofLent x = rock.isEmpty() ? new RoofLent() : Check.on(rock);
        Check.fill(x, 5, 77);
        x.at(5, 0);
        x.tear(5);
        return x;
    }

    private static void toldBefore() {
        RoofLent x = new RoofLent();
        c.due("asked() before", x.asked(), 0);
        c.due("upper() before", x.upper(), 0);
        c.due("lower() before", x.lower(), 1);
        c.due("finding() before", x.finding(), 0);
        for (int f = 1; f <= 5; f++) {
            c.due("findings() before", x.findings(f), 0);
        }
        for (int what = 0; what <= 8; what++) {
            c.due("count(" + what + ") before", x.count(what), 0);
        }
    }

    private static void noTowers() {
        RoofLent x = on("");
        x.row(0, 0);
        x.row(1, 1);
        c.refusal(x, "tower(0)", () -> x.tower(0), BAD);
        c.refusal(x, "house(0, 0, 0)", () -> x.house(0, 0, 0), BAD);
        c.refusal(x, "mark(0, 0, 1)", () -> x.mark(0, 0, 1), BAD);
        c.refusal(x, "bear(0, 0, 1)", () -> x.bear(0, 0, 1), BAD);
        c.refusal(x, "build(0, 0, 1)", () -> x.build(0, 0, 1), BAD);
        c.refusal(x, "leave(0, 0)", () -> x.leave(0, 0), BAD);
        c.refusal(x, "undo(1)", () -> x.undo(1), BAD);
        c.refusal(x, "keep(0)", () -> x.keep(0), STATE);
        c.refusal(x, "shades(0, 0, 0)", () -> x.shades(0, 0, 0), BAD);
        c.refusal(x, "sees(0, 0)", () -> x.sees(0, 0), BAD);
        c.refusal(x, "owes(0, 1)", () -> x.owes(0, 1), BAD);
        c.refusal(x, "debt(0)", () -> x.debt(0), BAD);
        c.refusal(x, "best(0, 9)", () -> x.best(0, 9), STATE);
        c.refusal(x, "both(0, 0, 9)", () -> x.both(0, 0, 9), STATE);
        c.refusal(x, "high(0, 9)", () -> x.high(0, 9), BAD);
        c.refusal(x, "game(9, 4)", () -> x.game(9, 4), STATE);
        c.refusal(x, "begin(9, 4)", () -> x.begin(9, 4), STATE);
        c.refusal(x, "kinds(0, 0, 0)", () -> x.kinds(0, 0, 0), BAD);
        c.refusal(x, "odds(0, 0)", () -> x.odds(0, 0), BAD);
        c.refusal(x, "lots(1, 1)", () -> x.lots(1, 1), STATE);
        c.refusal(x, "fog(1)", () -> x.fog(1), SIZE);
        c.told(x, "fog(0)", x.fog(0), 32, 0);
    }

    private static void noTowersAsked() {
        RoofLent x = on("");
        c.told(x, "undo(0)", x.undo(0), 0, 77);
        c.told(x, "ruined()", x.ruined(), NONE, 77);
        c.told(x, "relief()", x.relief(), NONE, 77);
        c.told(x, "settle()", x.settle(), 0, 77);
        c.told(x, "light()", x.light(), 0, 0);
        RoofLent y = on("");
        c.told(y, "sways()", y.sways(), NONE, 0);
        RoofLent z = on("");
        c.told(z, "fewest()", z.fewest(), 0, 0);
        RoofLent w = on("");
        c.told(w, "rings()", w.rings(), 0, 0);
    }

    private static void noHouses() {
        for (int each = 0; each < 5; each++) {
            RoofLent x = on("rrrrr");
            int t = each;
            c.due("tower(" + t + ")", x.tower(t), 0);
            c.refusal(x, "house(t, 0, 0)", () -> x.house(t, 0, 0), BEYOND);
            c.refusal(x, "mark(t, 0, 1)", () -> x.mark(t, 0, 1), BEYOND);
            c.refusal(x, "bear(t, 0, 1)", () -> x.bear(t, 0, 1), BEYOND);
            c.refusal(x, "leave(t, 0)", () -> x.leave(t, 0), BEYOND);
            c.refusal(x, "shades(t, 0, 0)", () -> x.shades(t, 0, 0), BEYOND);
            c.refusal(x, "sees(t, 0)", () -> x.sees(t, 0), BEYOND);
            c.refusal(x, "kinds(t, 0, 0)", () -> x.kinds(t, 0, 0), BEYOND);
            c.refusal(x, "odds(t, 0)", () -> x.odds(t, 0), BEYOND);
            c.due("high(t, 9)", x.high(t, 9), 5);
        }
        RoofLent x = on("rrrrr");
        x.row(0, 0);
        x.row(1, 1);
        c.refusal(x, "owes(0, 1)", () -> x.owes(0, 1), BAD);
        c.refusal(x, "debt(0)", () -> x.debt(0), BAD);
        c.refusal(x, "fog(1)", () -> x.fog(1), SIZE);
        c.told(x, "ruined()", x.ruined(), NONE, 77);
        c.told(x, "relief()", x.relief(), NONE, 77);
        c.told(x, "settle()", x.settle(), 0, 77);
        c.told(x, "undo(0)", x.undo(0), 0, 77);
        c.told(x, "keep(2)", x.keep(2), 0, 77);
        c.told(x, "on(2)", x.on(2), 0, 77);
        c.told(x, "fog(0)", x.fog(0), 32, 0);
    }

    private static void noHousesAsked() {
        RoofLent x = on("rrrrr");
        c.told(x, "light()", x.light(), 0, 0);
        RoofLent y = on("rrrrr");
        c.told(y, "sways()", y.sways(), NONE, 0);
        RoofLent z = on("rrrrr");
        c.told(z, "fewest()", z.fewest(), 0, 0);
        RoofLent w = on("rrrrr");
        c.told(w, "rings()", w.rings(), 0, 0);
        RoofLent v = on("rrrrr");
        c.told(v, "best(3, 0)", v.best(3, 0), 0, 0);
        RoofLent u = on("rrrrr");
        c.told(u, "both(0, 0, 0)", u.both(0, 0, 0), 1, 2);
        c.due("game(0, 1)", u.game(0, 1), 1);
        c.due("begin(0, 1)", u.begin(0, 1), 0);
        c.due("count(3)", u.count(3), 0);
        c.due("lots(12, 3)", u.lots(12, 3), 12);
    }

    /** A TOWER without HOUSES hides none from none, and is there for what leans on it from the west. */
    private static void towerWithoutHouses() {
        RoofLent x = Check.on("rh9l9 r rh9h9");
        c.due("shades(0, 0, 4)", x.shades(0, 0, 4), 2);
        c.due("shades(2, 1, 0)", x.shades(2, 1, 0), 1);
        c.due("mark(0, 1, 2)", x.mark(0, 1, 2), 0);
        c.told(x, "house(0, 0, 3)", x.house(0, 0, 3), 1, 1);
        c.told(x, "house(2, 0, 3)", x.house(2, 0, 3), 1, 2);
        c.told(x, "house(2, 1, 0)", x.house(2, 1, 0), 1, 3);
        c.due("build(1, 0, 0)", x.build(1, 0, 0), 0);
        c.told(x, "house(1, 0, 3), leant on", x.house(1, 0, 3), 1, 1);
        c.told(x, "house(2, 1, 0), one number on", x.house(2, 1, 0), 1, 4);
    }

    private static void lastHouseLeaves() {
        RoofLent x = on("rh9");
        c.due("leave(0, 0)", x.leave(0, 0), 0);
        c.due("count(0)", x.count(0), 1);
        c.due("count(1)", x.count(1), 0);
        c.due("count(3)", x.count(3), 0);
        c.refusal(x, "leave(0, 0) again", () -> x.leave(0, 0), BEYOND);
        c.refusal(x, "debt(0)", () -> x.debt(0), BAD);
        c.told(x, "ruined()", x.ruined(), NONE, 77);
        c.due("keep(0)", x.keep(0), 1);
        c.due("undo(0)", x.undo(0), 1);
        c.due("tower(0)", x.tower(0), 1);
        c.due("on(0)", x.on(0), 1);
        c.due("tower(0), as kept", x.tower(0), 0);
    }

    private static void rowOfNone() {
        RoofLent x = on("");
        c.due("row(1, 0)", x.row(1, 0), 0);
        x.row(2, 2);
        c.due("count(6)", x.count(6), 2);
        c.refusal(x, "lay(1, 0, 5)", () -> x.lay(1, 0, 5), BEYOND);
        c.refusal(x, "at(1, 0)", () -> x.at(1, 0), BEYOND);
        c.refusal(x, "at(1, -1)", () -> x.at(1, -1), BEYOND);
        c.refusal(x, "mean(1)", () -> x.mean(1), NOUGHT);
        c.told(x, "copy(1, 0, 1, 0, 0)", x.copy(1, 0, 1, 0, 0), 1, 77);
        c.due("copy(1, 0, 2, 2, 0)", x.copy(1, 0, 2, 2, 0), 1);
        c.due("copy(2, 2, 1, 0, 0)", x.copy(2, 2, 1, 0, 0), 1);
        c.refusal(x, "copy(1, 0, 2, 0, 1)", () -> x.copy(1, 0, 2, 0, 1), BEYOND);
        c.refusal(x, "copy(2, 0, 1, 0, 1)", () -> x.copy(2, 0, 1, 0, 1), BEYOND);
        c.refusal(x, "copy(1, 1, 2, 0, 0)", () -> x.copy(1, 1, 2, 0, 0), BEYOND);
        c.refusal(x, "copy(2, 3, 1, 0, 0)", () -> x.copy(2, 3, 1, 0, 0), BEYOND);
        c.due("tear(1)", x.tear(1), 1);
        c.due("count(6), torn", x.count(6), 1);
        RoofLent y = on("rh9");
        y.row(0, 0);
        c.refusal(y, "fog() by a ROW of none", () -> y.fog(0), SIZE);
        c.refusal(y, "kinds() by a ROW of none", () -> y.kinds(0, 0, 0), SIZE);
    }

    private static void missingRow() {
        for (int each = 1; each < 6; each++) {
            RoofLent x = on("rh9");
            x.row(0, 1);
            int r = each;
            c.refusal(x, "lay(r, 0, 1)", () -> x.lay(r, 0, 1), NOTHING);
            c.refusal(x, "at(r, 0)", () -> x.at(r, 0), NOTHING);
            c.refusal(x, "tear(r)", () -> x.tear(r), NOTHING);
            c.refusal(x, "copy(r, 0, 0, 0, 1)", () -> x.copy(r, 0, 0, 0, 1), NOTHING);
            c.refusal(x, "copy(0, 0, r, 0, 1)", () -> x.copy(0, 0, r, 0, 1), NOTHING);
            c.refusal(x, "copy(r, 0, r, 0, 0)", () -> x.copy(r, 0, r, 0, 0), NOTHING);
            c.refusal(x, "mean(r)", () -> x.mean(r), NOTHING);
            c.refusal(x, "fog(r)", () -> x.fog(r), NOTHING);
            c.refusal(x, "kinds(0, 0, r)", () -> x.kinds(0, 0, r), NOTHING);
            c.due("count(6)", x.count(6), 1);
        }
        RoofLent x = on("rh9");
        Check.fill(x, 0, 5);
        c.due("tear(0)", x.tear(0), 1);
        c.refusal(x, "tear(0) again", () -> x.tear(0), NOTHING);
        c.due("row(0, 1) anew", x.row(0, 1), 1);
        c.told(x, "at(0, 0) anew", x.at(0, 0), 1, 0);
    }

    private static void textOfNone() {
        RoofLent x = on("rh9");
        c.due("text(0, 0)", x.text(0, 0), 0);
        c.due("count(7)", x.count(7), 2);
        c.refusal(x, "put(0, 0, 114)", () -> x.put(0, 0, 114), BEYOND);
        c.refusal(x, "put(0, -1, 114)", () -> x.put(0, -1, 114), BEYOND);
        c.told(x, "fault(0): its size", x.fault(0), 0, 77);
        c.refusal(x, "rock(0)", () -> x.rock(0), STATE);
        c.due("count(1)", x.count(1), 1);
    }

    private static void missingText() {
        RoofLent x = on("");
        x.text(0, 1);
        for (int each = 1; each < 4; each++) {
            int t = each;
            c.refusal(x, "put(t, 0, 1)", () -> x.put(t, 0, 1), NOTHING);
            c.refusal(x, "put(t, MAX, 1)", () -> x.put(t, MAX, 1), NOTHING);
            c.refusal(x, "fault(t)", () -> x.fault(t), NOTHING);
            c.refusal(x, "rock(t)", () -> x.rock(t), NOTHING);
        }
        c.due("count(7)", x.count(7), 1);
    }

    private static void noneKept() {
        RoofLent x = on("rh9");
        for (int each = 0; each < 3; each++) {
            int k = each;
            c.refusal(x, "on(k)", () -> x.on(k), NOTHING);
        }
        x.build(0, 0, 0);
        c.due("keep(1)", x.keep(1), 1);
        c.refusal(x, "on(0), kept in another", () -> x.on(0), NOTHING);
        c.refusal(x, "on(2), kept in another", () -> x.on(2), NOTHING);
        x.keep(0);
        x.keep(2);
        c.due("count(8)", x.count(8), 3);
        Check.write(x, 0, "r");
        c.due("rock(0)", x.rock(0), 1);
        c.due("count(8) anew", x.count(8), 0);
        for (int each = 0; each < 3; each++) {
            int k = each;
            c.refusal(x, "on(k) anew", () -> x.on(k), NOTHING);
        }
    }
}
