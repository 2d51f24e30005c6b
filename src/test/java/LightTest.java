/** Promises 21 to 27, 33 and 34: who shades whom, light, debts, what sways; debts settled, and in rings. */
public final class LightTest {
    private static final int MIN = Integer.MIN_VALUE, MAX = Integer.MAX_VALUE;
    private static final Check c = new Check();

    public static void main(String[] args) {
        promise21();
        promise21Refused();
        promise22();
        promise23();
        promise24();
        promise25();
        promise26();
        promise27();
        promise33();
        promise34();
        c.end();
    }

    private static void shaded(String rock, int t, int s, int... want) {
        RoofLent x = Check.on(rock);
        for (int hour = 0; hour < want.length; hour++) {
            c.told(x, "shades(" + t + ", " + s + ", " + hour + ") of " + rock, x.shades(t, s, hour), want[hour], 0);
        }
    }

    private static void promise21() {
        int none = Check.NONE;
        shaded("rh9", 0, 0, none, none, none, none, none);
        shaded("rh9 rh9 rh9", 1, 0, 0, none, none, none, 2);
        shaded("rh9h9 rh9h9 rh9h9", 1, 0, 0, 1, 3, 5, 4);
        shaded("rh9 rg9 rh9", 0, 0, none, none, none, none, 2);
        shaded("rh9 re9 rh9", 2, 0, 0, none, none, none, none);
        shaded("rh9 ra9 rh9", 2, 0, 1, none, none, none, none);
        shaded("rh9 rl9 rh9", 2, 0, 1, none, none, none, none);
        shaded("rh9 rm9 rh9", 2, 0, 1, none, none, none, none);
        shaded("rh9 r r r rh9", 0, 0, none, none, none, none, 1);
        shaded("rh9 r r r rh9", 4, 0, 0, none, none, none, none);
        shaded("rh9 r rh9h9h9", 0, 0, none, none, none, 3, 1);
        shaded("rh9 rh9g9 rh9h9h9", 0, 0, none, none, none, 5, 1);
        shaded("rh9h9h9 rh9g9 rh9", 2, 0, 3, 2, none, none, none);
        shaded("rh9g9e9g9h9m9", 0, 0, none, none, 4, none, none);
        shaded("rh9g9e9g9h9m9", 0, 4, none, none, 5, none, none);
        shaded("rh9g9e9g9h9m9", 0, 5, none, none, none, none, none);
        shaded("rh9 r r r rh9h9h9h9h9", 0, 0, none, none, none, 5, 1);
        shaded("rh9h9 rg9g9 rh9h9", 1, 1, 1, none, none, none, 5);
    }

    private static void promise21Refused() {
        RoofLent x = Check.on("rh9 rh9 r");
        c.refused(x, "shades(0, 0, -1)", () -> x.shades(0, 0, -1), Check.BAD);
        c.refused(x, "shades(0, 0, 5)", () -> x.shades(0, 0, 5), Check.BAD);
        c.refused(x, "shades(0, 1, 5)", () -> x.shades(0, 1, 5), Check.BAD);
        c.refused(x, "shades(3, 0, 0)", () -> x.shades(3, 0, 0), Check.BAD);
        c.refused(x, "shades(-1, 0, 0)", () -> x.shades(-1, 0, 0), Check.BAD);
        c.refused(x, "shades(0, -1, 0)", () -> x.shades(0, -1, 0), Check.BAD);
        c.finding(x, "shades(0, 1, 0)", () -> x.shades(0, 1, 0), Check.BEYOND);
        c.finding(x, "shades(2, 0, 0)", () -> x.shades(2, 0, 0), Check.BEYOND);
        c.finding(x, "shades(0, MAX, 0)", () -> x.shades(0, MAX, 0), Check.BEYOND);
    }

    private static void promise22() {
        RoofLent x = Check.on("rh9m9l9m9 rh9 r");
        c.told(x, "sees(0, 0)", x.sees(0, 0), 1 | 2 | 8, 2);
        c.told(x, "sees(0, 1)", x.sees(0, 1), 1 | 2 | 8 | 16, 1);
        c.told(x, "sees(0, 2)", x.sees(0, 2), 1 | 2 | 8 | 16, 1);
        c.told(x, "sees(0, 3)", x.sees(0, 3), 31, 0);
        c.told(x, "sees(1, 0)", x.sees(1, 0), 4 | 8 | 16, 0);
        c.finding(x, "sees(1, 1)", () -> x.sees(1, 1), Check.BEYOND);
        c.finding(x, "sees(2, 0)", () -> x.sees(2, 0), Check.BEYOND);
        c.refused(x, "sees(3, 0)", () -> x.sees(3, 0), Check.BAD);
        c.refused(x, "sees(-1, 0)", () -> x.sees(-1, 0), Check.BAD);
        c.refused(x, "sees(0, MIN)", () -> x.sees(0, MIN), Check.BAD);
    }

    private static void promise23() {
        RoofLent x = Check.on("rh9 ra9h9 re9");
        c.told(x, "owes(0, 1)", x.owes(0, 1), 2, 0);
        c.due("owes(1, 0)", x.owes(1, 0), 1);
        c.due("owes(2, 0)", x.owes(2, 0), 1);
        c.due("owes(2, 1)", x.owes(2, 1), 2);
        c.due("owes(0, 2)", x.owes(0, 2), 0);
        c.due("owes(1, 3)", x.owes(1, 3), 0);
        c.due("owes(3, 0)", x.owes(3, 0), 0);
        RoofLent y = Check.on("rh9h9 rh9h9h9");
        c.due("owes(3, 0)", y.owes(3, 0), 1);
        c.due("owes(4, 2)", y.owes(4, 2), 0);
        c.refused(x, "owes(0, 0)", () -> x.owes(0, 0), Check.BAD);
        c.refused(x, "owes(0, 4)", () -> x.owes(0, 4), Check.BAD);
        c.refused(x, "owes(4, 0)", () -> x.owes(4, 0), Check.BAD);
        c.refused(x, "owes(-1, 0)", () -> x.owes(-1, 0), Check.BAD);
        c.refused(x, "owes(0, -1)", () -> x.owes(0, -1), Check.BAD);
        c.refused(x, "owes(MAX, MIN)", () -> x.owes(MAX, MIN), Check.BAD);
        RoofLent z = new RoofLent();
        c.refused(z, "owes(0, 1) without houses", () -> z.owes(0, 1), Check.BAD);
    }

    private static void promise24() {
        RoofLent x = Check.on("rh9 ra9h9 re9");
        c.told(x, "debt(0)", x.debt(0), 1, 2 - 2);
        c.told(x, "debt(1)", x.debt(1), 1, 1 - 4);
        c.told(x, "debt(2)", x.debt(2), 1, 3);
        c.told(x, "debt(3)", x.debt(3), 1, 0);
        c.refused(x, "debt(4)", () -> x.debt(4), Check.BAD);
        c.refused(x, "debt(-1)", () -> x.debt(-1), Check.BAD);
        RoofLent z = Check.on("rh9 ra9h9 re9");
        c.told(z, "debt(2), ahead of all others", z.debt(2), 1, 3);
        RoofLent y = new RoofLent();
        c.refused(y, "debt(0) without houses", () -> y.debt(0), Check.BAD);
    }

    private static void promise25() {
        RoofLent x = Check.on("rh9 ra9h9 re9");
        c.told(x, "light()", x.light(), 3 + 3 + 5 + 3, 6);
        RoofLent y = Check.on("rh9m9m9");
        c.told(y, "light() of lamped ones", y.light(), 5 + 5 + 5, 2);
        RoofLent z = new RoofLent();
        z.row(0, 1);
        z.lay(0, 0, 8);
        z.at(0, 0);
        c.told(z, "light() without houses", z.light(), 0, 0);
    }

    private static void promise26() {
        RoofLent x = Check.on("rh9 ra9h9 re9");
        c.told(x, "ruined()", x.ruined(), 2, 3);
        RoofLent y = Check.on("rh9 rh9");
        c.told(y, "ruined(), the first", y.ruined(), 0, 1);
        RoofLent z = Check.on("r rg9");
        c.told(z, "ruined(), none owes", z.ruined(), 0, 0);
        RoofLent w = Check.on("rr");
        Check.fill(w, 0, 8);
        w.at(0, 0);
        c.told(w, "ruined() without houses", w.ruined(), Check.NONE, 8);
    }

    private static void promise27() {
        RoofLent x = Check.on("rh2h0 rh1g0 rh1h0");
        c.told(x, "sways()", x.sways(), 4, 1);
        x.bear(0, 0, 1);
        c.told(x, "sways(), two", x.sways(), 0, 2);
        x.bear(1, 0, 0);
        c.told(x, "sways(), three", x.sways(), 0, 3);
        RoofLent y = Check.on("rh0l0 rh0");
        c.told(y, "sways(), leant on", y.sways(), 0, 2);
        y.bear(0, 0, 1);
        c.told(y, "sways(), leant on from the west", y.sways(), 2, 1);
        y.bear(1, 0, 1);
        c.told(y, "sways(), none", y.sways(), Check.NONE, 0);
        RoofLent z = Check.on("r");
        Check.fill(z, 0, 8);
        z.at(0, 0);
        c.told(z, "sways() without houses", z.sways(), Check.NONE, 0);
    }

    private static void settles(String rock, int want, int... debts) {
        RoofLent x = Check.on(rock);
        c.due("settle() of " + rock, x.settle(), want);
        for (int i = 0; i < debts.length; i++) {
            c.told(x, "debt(" + i + ") of " + rock, x.debt(i), 1, debts[i]);
        }
    }

    private static void promise33() {
        settles("", 0);
        settles("rr", 0);
        settles("rh9", 0, 0);
        settles("rh9 rh9", 0, 0, 0);
        settles("rh9 ra9", 1, 1, -1);
        settles("rh9 ra9 rh9", 2, 1, -2, 1);
        settles("rh9 ra9 r ra9 rh9", 2, 1, -1, -1, 1);
        settles("rh9h9", 1, -1, 1);
        settles("rh9h9 r r r rh9h9", 2);
        settles("rh9 ra9h9 re9", 1, 0, -3, 3, 0);
        // 3 and -3, 4 and both -2: were the most handed to who is owed most, it would take 4.
        settles("rg9h9 ra9g9l9", 3, -2, 3, -3, -2, 4);
        // 4 and one of the -4, 3 and 3 and -6, 5 and -4 and -1.
        settles("ra9m9 ra9m9h9 ra9a9m9", 5, -4, 3, -6, 5, 4, -4, -1, 3);
        settles("ra9 rh9g9m9l9l9 r rh9g9 rh9l9m9a9", 6, -1, -1, -2, 2, 3, 2, -2, -3, -2, 2, 1, 1);
        settles("rh9a9a9 rg9l9m9 rg9m9 rg9 rm9m9a9", 9, 1, -3, 2, -5, 2, 6, -5, 2, -4, 2, 1, 1);
    }

    private static void promise34() {
        RoofLent x = Check.on("rh9 rh9 rg9 rh9");
        c.told(x, "rings()", x.rings(), 1 | 2 | 8, 2);
        RoofLent y = Check.on("rh9h9h9");
        c.told(y, "rings(), none", y.rings(), 0, 0);
        RoofLent z = Check.on("rh9 re9");
        c.told(z, "rings(), an empty one is owed none", z.rings(), 0, 0);
        RoofLent w = Check.on("rr");
        c.told(w, "rings() without houses", w.rings(), 0, 0);
        RoofLent v = Check.on("rh9 rh9h9h9 rh9");
        c.told(v, "rings(), those above are in none", v.rings(), 1 | 2 | 16, 2);
    }
}
