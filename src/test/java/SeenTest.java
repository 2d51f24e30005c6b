/** Promises 37 to 40: by light that was seen: in which hours there was fog, of which kind one was; chances; lots. */
public final class SeenTest {
    private static final int MIN = Integer.MIN_VALUE, MAX = Integer.MAX_VALUE;
    private static final Check c = new Check();

    public static void main(String[] args) {
        promise37();
        promise37Lamps();
        promise37Refused();
        promise38();
        promise38Refused();
        promise39();
        promise40();
        promise40PassedOver();
        promise40Refused();
        c.end();
    }

    private static void fog(String rock, int want, int asked, int... light) {
        RoofLent x = Check.on(rock);
        Check.fill(x, 4, light);
        long before = x.digest();
        c.told(x, "fog() of " + rock, x.fog(4), want, asked);
        c.due("fog() of " + rock + ", then digest()", x.digest(), before);
    }

    private static void promise37() {
        fog("r", 32, 0);
        fog("rh9", 1, 0, 5);
        fog("rh9", 5, 1, 4);
        fog("rh9", 10, 3, 3);
        fog("rh9", 1, 31, 0);
        fog("rh9", 0, Check.NONE, 6);
        fog("rh9", 0, Check.NONE, -1);
        fog("rh9 rh9", 1, 0, 4, 4);
        fog("rh9 rh9", 1, 16, 4, 3);
        fog("rh9 rh9", 1, 1, 3, 4);
        fog("rh9 rh9", 4, 2, 3, 3);
        fog("rh9 rh9", 0, Check.NONE, 5, 4);
        fog("rh9h9", 1, 4, 4, 4);
        fog("rh9h9", 1, 0, 4, 5);
        fog("rh9h9", 4, 1, 3, 4);
    }

    private static void promise37Lamps() {
        fog("rh9m9", 1, 31, 1, 0);
        fog("rh9m9m9", 1, 31, 2, 1, 0);
        fog("rh9m9m9", 1, 0, 5, 5, 5);
        fog("rh9m9m9", 4, 1, 5, 4, 4);
        fog("rh9m9m9", 1, 4, 5, 5, 4);
        fog("rh9m9m9", 0, Check.NONE, 6, 5, 5);
        fog("rh9m9m9m9m9m9", 0, Check.NONE, 4, 4, 3, 2, 1, 0);
        fog("rh9m9m9m9m9m9", 1, 31, 5, 4, 3, 2, 1, 0);
    }

    private static void promise37Refused() {
        RoofLent x = Check.on("rh9 rh9");
        Check.fill(x, 0, 4);
        Check.fill(x, 1, 4, 4, 4);
        c.finding(x, "fog(0), too few", () -> x.fog(0), Check.SIZE);
        c.finding(x, "fog(1), too many", () -> x.fog(1), Check.SIZE);
        c.finding(x, "fog(2)", () -> x.fog(2), Check.NOTHING);
        c.refused(x, "fog(6)", () -> x.fog(6), Check.BAD);
        c.refused(x, "fog(-1)", () -> x.fog(-1), Check.BAD);
        RoofLent y = new RoofLent();
        y.row(0, 0);
        c.told(y, "fog(0) without houses", y.fog(0), 32, 0);
    }

    private static void kinds(String rock, int t, int s, int want, int... light) {
        RoofLent x = Check.on(rock);
        Check.fill(x, 5, light);
        long before = x.digest();
        int asked = x.asked();
        c.told(x, "kinds(" + t + ", " + s + ") of " + rock, x.kinds(t, s, 5), want, asked);
        c.due("kinds() of " + rock + ", then digest()", x.digest(), before);
    }

    private static void promise38() {
        kinds("rh9", 0, 0, 63, 5);
        kinds("rh9", 0, 0, 0, 4);
        kinds("rh9 rh9", 0, 0, 1 | 4 | 8 | 32, 4, 4);
        kinds("rh9 rh9", 0, 0, 2 | 16, 4, 5);
        kinds("rh9 rh9", 1, 0, 2 | 16, 5, 4);
        kinds("rh9h9", 0, 1, 1 | 4 | 8, 4, 5);
        kinds("rh9h9", 0, 1, 2 | 16 | 32, 5, 5);
        kinds("rh9m9", 0, 1, 1 | 4 | 8, 4, 5);
        kinds("rh9m9h9", 0, 1, 32, 5, 4, 5);
        kinds("rh9m9h9", 0, 1, 1 | 2 | 4 | 8 | 16, 4, 4, 5);
        kinds("rh9m9h9", 0, 1, 0, 4, 4, 4);
    }

    private static void promise38Refused() {
        RoofLent x = Check.on("rh9 rh9 r");
        Check.fill(x, 0, 4);
        Check.fill(x, 1, 4, 4, 4);
        c.refused(x, "kinds(3, 0, 0)", () -> x.kinds(3, 0, 0), Check.BAD);
        c.refused(x, "kinds(-1, 0, 0)", () -> x.kinds(-1, 0, 0), Check.BAD);
        c.refused(x, "kinds(0, -1, 0)", () -> x.kinds(0, -1, 0), Check.BAD);
        c.refused(x, "kinds(0, 0, -1)", () -> x.kinds(0, 0, -1), Check.BAD);
        c.refused(x, "kinds(0, 9, 6)", () -> x.kinds(0, 9, 6), Check.BAD);
        c.finding(x, "kinds(0, 1, 2)", () -> x.kinds(0, 1, 2), Check.BEYOND);
        c.finding(x, "kinds(2, 0, 0)", () -> x.kinds(2, 0, 0), Check.BEYOND);
        c.finding(x, "kinds(0, 0, 2)", () -> x.kinds(0, 0, 2), Check.NOTHING);
        c.finding(x, "kinds(0, 0, 0), too few", () -> x.kinds(0, 0, 0), Check.SIZE);
        c.finding(x, "kinds(0, 0, 1), too many", () -> x.kinds(0, 0, 1), Check.SIZE);
    }

    private static void odds(String rock, int t, int s, int upper, int lower) {
        RoofLent x = Check.on(rock);
        c.told(x, "odds(" + t + ", " + s + ") of " + rock, x.odds(t, s), 1, 0);
        c.due("upper() of " + rock, x.upper(), upper);
        c.due("lower() of " + rock, x.lower(), lower);
    }

    private static void promise39() {
        odds("rh9", 0, 0, 1, 1);
        odds("rh9 rh9", 0, 0, 4, 5);
        odds("rh9 rh9 rh9", 1, 0, 3, 5);
        odds("rh9 rh9h9 rh9", 1, 0, 2, 5);
        odds("rh9 rh9h9 rh9h9", 1, 0, 1, 5);
        odds("rh9h9 rh9h9 rh9h9", 1, 0, 0, 1);
        odds("rh9h9 rh9m9 rh9h9", 1, 0, 0, 1);
        RoofLent x = Check.on("rh9 rh9 r");
        x.odds(0, 0);
        c.finding(x, "odds(0, 1)", () -> x.odds(0, 1), Check.BEYOND);
        c.finding(x, "odds(2, 0)", () -> x.odds(2, 0), Check.BEYOND);
        c.refused(x, "odds(3, 0)", () -> x.odds(3, 0), Check.BAD);
        c.refused(x, "odds(-1, 0)", () -> x.odds(-1, 0), Check.BAD);
        c.refused(x, "odds(0, -1)", () -> x.odds(0, -1), Check.BAD);
        c.due("upper() stays", x.upper(), 4);
        c.due("lower() stays", x.lower(), 5);
    }

    private static void built(RoofLent x, int t, int s, int kind, int borne) {
        c.told(x, "house(" + t + ", " + s + ", 1)", x.house(t, s, 1), 1, kind);
        c.told(x, "house(" + t + ", " + s + ", 2)", x.house(t, s, 2), 1, borne);
    }

    private static void promise40() {
        RoofLent x = Check.on("r r r");
        // 48271: by 3 leaves 1; by 8 is 6033, by 6 leaves 3; by 64 is 754, by 10 leaves 4.
        c.told(x, "lots(1, 1)", x.lots(1, 1), 1, 0);
        c.due("tower(1)", x.tower(1), 1);
        built(x, 1, 0, 3, 4);
        c.due("count(2)", x.count(2), 1);
        c.due("undo(0)", x.undo(0), 1);
        // The next one is 48271 times 48271 modulo 2147483647: 182605794; by 3 leaves 0; 22825724 by 6 leaves 2;
        // 2853215 by 10 leaves 5.
        c.due("lots(2, 1)", x.lots(2, 1), 2);
        built(x, 1, 0, 3, 4);
        built(x, 0, 0, 2, 5);
        c.due("count(2)", x.count(2), 2);
        c.due("undo(1)", x.undo(1), 1);
        c.due("tower(0)", x.tower(0), 0);
        c.due("tower(1)", x.tower(1), 1);
        // The greatest seed is -1 by the modulus: its first number is 2147483647 - 48271.
        RoofLent y = Check.on("r r");
        c.due("lots(1, 2147483646)", y.lots(1, 2147483646), 1);
        built(y, 0, 0, 2147435376 / 8 % 6, 2147435376 / 64 % 10);
    }

    private static void promise40PassedOver() {
        RoofLent x = Check.on("rh9h9h9h9h9");
        c.due("lots(12, 1), one finds room", x.lots(12, 1), 1);
        built(x, 0, 5, 3, 4);
        c.due("count(2)", x.count(2), 1);
        c.due("lots(12, 1), none finds room", x.lots(12, 1), 0);
        c.due("count(2)", x.count(2), 1);
        RoofLent y = Check.on("rh9h9h9h9h9 rh9h9h9h9h9h9");
        c.due("lots(12, 5), 12 in all", y.lots(12, 5), 1);
        c.due("count(1)", y.count(1), 12);
        RoofLent z = Check.on("r r r r r");
        c.due("lots(12, 99)", z.lots(12, 99), 12);
        c.due("count(1)", z.count(1), 12);
    }

    private static void promise40Refused() {
        RoofLent x = Check.on("r");
        c.refused(x, "lots(0, 1)", () -> x.lots(0, 1), Check.BAD);
        c.refused(x, "lots(-1, 1)", () -> x.lots(-1, 1), Check.BAD);
        c.refused(x, "lots(13, 1)", () -> x.lots(13, 1), Check.BAD);
        c.refused(x, "lots(1, 0)", () -> x.lots(1, 0), Check.BAD);
        c.refused(x, "lots(1, -1)", () -> x.lots(1, -1), Check.BAD);
        c.refused(x, "lots(1, MIN)", () -> x.lots(1, MIN), Check.BAD);
        c.refused(x, "lots(1, MAX)", () -> x.lots(1, MAX), Check.BAD);
        RoofLent y = new RoofLent();
        c.refused(y, "lots(1, 1) without towers", () -> y.lots(1, 1), Check.STATE);
        c.refused(y, "lots(0, 1) without towers", () -> y.lots(0, 1), Check.BAD);
        for (int i = 0; i < 19; i++) {
            x.build(0, 0, 0);
            x.leave(0, 0);
        }
        c.refused(x, "lots(3, 1), 38 deeds", () -> x.lots(3, 1), Check.FULL);
        c.refused(x, "lots(13, 1), 38 deeds", () -> x.lots(13, 1), Check.BAD);
        c.due("lots(2, 1), 38 deeds", x.lots(2, 1), 2);
        c.refused(x, "lots(1, 1), 40 deeds", () -> x.lots(1, 1), Check.FULL);
    }
}
