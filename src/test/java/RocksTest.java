/** Promises 10 to 20: faults, rocks, houses and what they weigh and bear; built, left, undone, kept, gone on from. */
public final class RocksTest {
    private static final int MIN = Integer.MIN_VALUE, MAX = Integer.MAX_VALUE;
    private static final Check c = new Check();

    public static void main(String[] args) {
        promise10();
        promise10Full();
        promise10Signs();
        promise11();
        promise12();
        promise13();
        promise13Weight();
        promise13Refused();
        promise14();
        promise14Refused();
        promise15();
        promise16();
        promise16Full();
        promise17();
        promise18();
        promise18Bears();
        promise19();
        promise20();
        promise20OtherDeeds();
        fullOfDeeds();
        c.end();
    }

    private static void faultOf(String signs, int want) {
        RoofLent x = new RoofLent();
        Check.write(x, 1, signs);
        long before = x.digest();
        c.due("fault of '" + signs + "'", x.fault(1), want);
        c.due("fault of '" + signs + "', then digest()", x.digest(), before);
        if (want == Check.NONE) {
            c.due("rock of '" + signs + "'", x.rock(1), signs.replaceAll("[^r]", "").length());
        } else {
            c.refused(x, "rock of '" + signs + "'", () -> x.rock(1), Check.STATE);
        }
    }

    private static void promise10() {
        faultOf("", 0);
        faultOf("   ", 3);
        faultOf("r", Check.NONE);
        faultOf("  r ", Check.NONE);
        faultOf("rrrrr", Check.NONE);
        faultOf("h9", 0);
        faultOf("  h9r", 2);
        faultOf("9", 0);
        faultOf("rh", 2);
        faultOf("rh  ", 2);
        faultOf("rh 9", 2);
        faultOf("r  h9", Check.NONE);
        faultOf(" r h0 g1 l2  a3 e4 m5 r ", Check.NONE);
        faultOf("rh9h", 4);
        faultOf("rhh", 2);
        faultOf("rh:", 2);
        faultOf("rh/", 2);
        faultOf("rh99", 3);
        faultOf("r9", 1);
        faultOf("rr h9x", 5);
        faultOf("rH9", 1);
        faultOf("Rh9", 0);
        faultOf("rb9", 1);
        faultOf("rn9", 1);
        faultOf("rq9", 1);
        faultOf("r" + (char) 0, 1);
        faultOf("r" + (char) 200 + "9", 1);
        faultOf("rh" + (char) 200, 2);
        faultOf("rh9\t", 3);
        RoofLent x = new RoofLent();
        c.finding(x, "fault(0)", () -> x.fault(0), Check.NOTHING);
        c.refused(x, "fault(-1)", () -> x.fault(-1), Check.BAD);
        c.refused(x, "fault(4)", () -> x.fault(4), Check.BAD);
        x.text(0, 5);
        c.told(x, "fault(0)", x.fault(0), 5, 0);
    }

    private static void promise10Full() {
        faultOf("rrrrrr", 5);
        faultOf("r r r r r r h", 10);
        faultOf("rh1h1h1h1h1h1", Check.NONE);
        faultOf("rh1h1h1h1h1h1h1", 13);
        faultOf("rh1h1h1h1h1h1h", 13);
        faultOf("rh1h1h1h1h1h1rh1h1h1h1h1h1", Check.NONE);
        faultOf("rh1h1h1h1h1h1rh1h1h1h1h1h1r", Check.NONE);
        faultOf("rh1h1h1h1h1h1rh1h1h1h1h1h1rh1", 27);
        faultOf("rh1h1h1rh1h1h1rh1h1h1rh1h1h1rg1", 29);
        faultOf("rh1h1h1rh1h1h1rh1h1h1rh1h1h1h1", 28);
    }

    /** Each sign there is ahead of all TOWERS, as a letter, as a figure, behind a HOUSE. */
    private static void promise10Signs() {
        for (char sign = 0; sign < 256; sign++) {
            boolean isLetter = "hglaem".indexOf(sign) >= 0;
            boolean isFigure = "0123456789".indexOf(sign) >= 0;
            boolean isBetween = sign == ' ' || sign == 'r';
            faultOf("" + sign, sign == 'r' ? Check.NONE : sign == ' ' ? 1 : 0);
            faultOf("r" + sign, isBetween ? Check.NONE : isLetter ? 2 : 1);
            faultOf("r" + sign + "5", isLetter ? Check.NONE : isBetween ? 2 : 1);
            faultOf("rh" + sign, isFigure ? Check.NONE : 2);
            faultOf("rh" + sign + "h5", isFigure ? Check.NONE : 2);
            faultOf("rh5" + sign, isBetween ? Check.NONE : isLetter ? 4 : 3);
        }
    }

    private static void promise11() {
        RoofLent x = new RoofLent();
        Check.write(x, 0, "rh9g8 r rl7");
        c.due("rock(0)", x.rock(0), 3);
        c.due("tower(0)", x.tower(0), 2);
        c.due("tower(1)", x.tower(1), 0);
        c.due("tower(2)", x.tower(2), 1);
        c.told(x, "house(2, 0, 1)", x.house(2, 0, 1), 1, 2);
        c.told(x, "house(2, 0, 2)", x.house(2, 0, 2), 1, 7);
        x.build(1, 3, 4);
        x.keep(0);
        x.keep(2);
        c.due("count(2)", x.count(2), 1);
        Check.write(x, 1, "rh9x");
        c.refused(x, "rock(1) of a fault", () -> x.rock(1), Check.STATE);
        c.finding(x, "rock(2)", () -> x.rock(2), Check.NOTHING);
        c.refused(x, "rock(-1)", () -> x.rock(-1), Check.BAD);
        c.refused(x, "rock(4)", () -> x.rock(4), Check.BAD);
        c.due("count(8)", x.count(8), 2);
        Check.write(x, 1, "rm3");
        c.due("rock(1)", x.rock(1), 1);
        c.due("count(2) anew", x.count(2), 0);
        c.due("count(8) anew", x.count(8), 0);
        c.due("undo(0) anew", x.undo(0), 0);
        c.due("count(1) anew", x.count(1), 1);
        c.finding(x, "on(0) anew", () -> x.on(0), Check.NOTHING);
        c.due("tower(1) anew", x.tower(1), Check.BAD);
        c.told(x, "house(0, 0, 1) anew", x.house(0, 0, 1), 1, 5);
        x.put(1, 0, 120);
        c.told(x, "house(0, 0, 2), the text changed", x.house(0, 0, 2), 1, 3);
    }

    private static void promise12() {
        RoofLent x = Check.on("rh1 r rh1h1h1h1h1h1");
        c.due("tower(0)", x.tower(0), 1);
        c.due("tower(1)", x.tower(1), 0);
        c.due("tower(2)", x.tower(2), 6);
        c.refused(x, "tower(3)", () -> x.tower(3), Check.BAD);
        c.refused(x, "tower(-1)", () -> x.tower(-1), Check.BAD);
        c.refused(x, "tower(5)", () -> x.tower(5), Check.BAD);
        c.refused(x, "tower(MIN)", () -> x.tower(MIN), Check.BAD);
    }

    private static void all(RoofLent x, int t, int s, int... want) {
        for (int what = 0; what < want.length; what++) {
            c.told(x, "house(" + t + ", " + s + ", " + what + ")", x.house(t, s, what), 1, want[what]);
        }
    }

    private static void promise13() {
        RoofLent x = Check.on("rh5 ra6");
        all(x, 0, 0, 0, 0, 5, 0, 4, 2, 1);
        all(x, 1, 0, 1, 3, 6, 0, 4, 1, 2);
        RoofLent y = Check.on("re5 ra6");
        all(y, 0, 0, 0, 4, 5, 0, 4, 0, 0);
        all(y, 1, 0, 1, 3, 6, 0, 5, 0, 0);
        RoofLent z = Check.on("rh1m2m3");
        all(z, 0, 0, 0, 0, 1, 4, 5, 0, 1);
        all(z, 0, 1, 1, 5, 2, 2, 5, 1, 1);
        all(z, 0, 2, 2, 5, 3, 0, 5, 1, 0);
        RoofLent w = Check.on("rh1 rh1m2 rh1");
        all(w, 0, 0, 0, 0, 1, 0, 3, 1, 2);
        all(w, 1, 0, 1, 0, 1, 1, 3, 2, 3);
        all(w, 1, 1, 2, 5, 2, 0, 5, 3, 0);
        all(w, 2, 0, 3, 0, 1, 1, 3, 1, 2);
    }

    private static void weighs(String rock, int t, int s, int want) {
        RoofLent x = Check.on(rock);
        c.told(x, "what weighs on " + t + ", " + s + " of " + rock, x.house(t, s, 3), 1, want);
    }

    private static void promise13Weight() {
        weighs("rh9h9", 0, 0, 2);
        weighs("rh9g9", 0, 0, 1);
        weighs("rh9l9", 0, 0, 2);
        weighs("rh9a9", 0, 0, 4);
        weighs("rh9e9", 0, 0, 1);
        weighs("rh9m9", 0, 0, 2);
        weighs("rh9l9 r", 0, 0, 1);
        weighs("rh9m9 r", 0, 0, 1);
        weighs("rh9m9 rh9", 0, 0, 1);
        weighs("rh9l9m9a9 r", 0, 0, 6);
        weighs("rh9l9m9a9 r", 0, 1, 5);
        weighs("rh9l9m9a9", 0, 0, 8);
        weighs("rh9h9l9 rh9h9h9h9", 1, 0, 7);
        weighs("rh9h9l9 rh9h9h9h9", 1, 1, 5);
        weighs("rh9h9l9 rh9h9h9h9", 1, 2, 3);
        weighs("rh9h9l9 rh9h9h9h9", 1, 3, 0);
        weighs("rl9m9 rh9", 1, 0, 2);
        weighs("rh9 rl9", 0, 0, 0);
        weighs("rl9 r rh9", 2, 0, 0);
        weighs("rh9h9l9 rl9 rh9h9", 2, 0, 3);
        weighs("rh9h9l9 rl9 rh9h9", 2, 1, 0);
        weighs("rl9 rh9", 0, 0, 0);
    }

    private static void promise13Refused() {
        RoofLent x = Check.on("rh5 ra6 r");
        c.refused(x, "house(-1, 0, 0)", () -> x.house(-1, 0, 0), Check.BAD);
        c.refused(x, "house(3, 0, 0)", () -> x.house(3, 0, 0), Check.BAD);
        c.refused(x, "house(0, -1, 0)", () -> x.house(0, -1, 0), Check.BAD);
        c.refused(x, "house(0, 0, -1)", () -> x.house(0, 0, -1), Check.BAD);
        c.refused(x, "house(0, 0, 7)", () -> x.house(0, 0, 7), Check.BAD);
        c.refused(x, "house(0, 9, 7)", () -> x.house(0, 9, 7), Check.BAD);
        c.refused(x, "house(0, MIN, 0)", () -> x.house(0, MIN, 0), Check.BAD);
        c.finding(x, "house(0, 1, 0)", () -> x.house(0, 1, 0), Check.BEYOND);
        c.finding(x, "house(2, 0, 0)", () -> x.house(2, 0, 0), Check.BEYOND);
        c.finding(x, "house(0, MAX, 0)", () -> x.house(0, MAX, 0), Check.BEYOND);
        RoofLent y = new RoofLent();
        c.refused(y, "house(0, 0, 0) without towers", () -> y.house(0, 0, 0), Check.BAD);
    }

    private static void marks(String rock, int t, int s, int kind, int want) {
        RoofLent x = Check.on(rock);
        String call = "mark(" + t + ", " + s + ", " + kind + ") of " + rock;
        if (want == Check.FINDING) {
            c.finding(x, call, () -> x.mark(t, s, kind), Check.UNLIKE);
        } else {
            c.told(x, call, x.mark(t, s, kind), want, 0);
        }
    }

    private static void promise14() {
        marks("rg9", 0, 0, 1, 0);
        marks("rh9g9", 0, 1, 1, 1);
        marks("rh9e9", 0, 1, 1, 1);
        marks("rh9g9h9", 0, 1, 1, 0);
        marks("rg9 rh9 rh9", 0, 0, 1, 1);
        marks("rg9 rg9 rh9", 0, 0, 1, 2);
        marks("rg9 rg9 rh9", 1, 0, 1, 1);
        marks("rh9 re9 rh9", 1, 0, 1, 0);
        marks("rg9 re9 rh9g9", 1, 0, 1, 1);
        marks("rh9h9 rh9g9 rh9h9", 1, 1, 1, 3);
        marks("rl9 rh9", 0, 0, 2, 1);
        marks("rh9h9l9 rh9h9h9h9", 0, 2, 2, 3);
        marks("rh9h9m9 rh9h9", 0, 2, 2, 2);
        marks("rh9l9 r", 0, 1, 2, 0);
        marks("rh9l9", 0, 1, 2, 0);
        marks("ra9", 0, 0, 3, 0);
        marks("ra9h9 rh9", 0, 0, 3, 4);
        marks("re9h9g9", 0, 0, 4, 2);
        marks("rh9e9", 0, 1, 4, 0);
        marks("rm9", 0, 0, 5, 0);
        marks("rh9m9", 0, 1, 5, 1);
        marks("rh9m9m9", 0, 1, 5, 0);
        marks("rh9m9m9", 0, 2, 5, 1);
        marks("rh9m9m9 rh9", 0, 2, 5, 2);
        marks("rh9m9m9 rh9", 0, 1, 5, 1);
    }

    private static void promise14Refused() {
        String[] letters = {"h", "g", "l", "a", "e", "m"};
        for (int kind = 0; kind < 6; kind++) {
            for (int asked = 1; asked < 6; asked++) {
                boolean isOf = kind == asked || kind == 4 && asked == 1 || kind == 5 && asked == 2;
                marks("r" + letters[kind] + "9", 0, 0, asked, isOf ? 0 : Check.FINDING);
            }
        }
        RoofLent x = Check.on("rh5 rg6");
        c.refused(x, "mark(0, 0, 0)", () -> x.mark(0, 0, 0), Check.BAD);
        c.refused(x, "mark(0, 9, 0)", () -> x.mark(0, 9, 0), Check.BAD);
        c.refused(x, "mark(1, 0, -1)", () -> x.mark(1, 0, -1), Check.BAD);
        c.refused(x, "mark(1, 0, 6)", () -> x.mark(1, 0, 6), Check.BAD);
        c.refused(x, "mark(2, 0, 1)", () -> x.mark(2, 0, 1), Check.BAD);
        c.refused(x, "mark(-1, 0, 1)", () -> x.mark(-1, 0, 1), Check.BAD);
        c.refused(x, "mark(1, -1, 1)", () -> x.mark(1, -1, 1), Check.BAD);
        c.finding(x, "mark(0, 1, 1)", () -> x.mark(0, 1, 1), Check.BEYOND);
    }

    private static void promise15() {
        RoofLent x = Check.on("rh5h0");
        c.told(x, "bear(0, 0, 9)", x.bear(0, 0, 9), 5, 0);
        c.due("bear(0, 0, 0)", x.bear(0, 0, 0), 9);
        c.told(x, "house(0, 0, 2)", x.house(0, 0, 2), 1, 0);
        c.told(x, "house(0, 0, 1)", x.house(0, 0, 1), 1, 0);
        c.told(x, "house(0, 1, 2)", x.house(0, 1, 2), 1, 0);
        c.due("count(2)", x.count(2), 0);
        c.told(x, "sways()", x.sways(), 0, 1);
        c.refused(x, "bear(0, 0, 10)", () -> x.bear(0, 0, 10), Check.BAD);
        c.refused(x, "bear(0, 0, -1)", () -> x.bear(0, 0, -1), Check.BAD);
        c.refused(x, "bear(0, 5, -1)", () -> x.bear(0, 5, -1), Check.BAD);
        c.refused(x, "bear(1, 0, 5)", () -> x.bear(1, 0, 5), Check.BAD);
        c.refused(x, "bear(-1, 0, 5)", () -> x.bear(-1, 0, 5), Check.BAD);
        c.refused(x, "bear(0, -1, 5)", () -> x.bear(0, -1, 5), Check.BAD);
        c.finding(x, "bear(0, 2, 5)", () -> x.bear(0, 2, 5), Check.BEYOND);
    }

    private static void promise16() {
        RoofLent x = Check.on("rh5 r");
        c.told(x, "build(0, 5, 9)", x.build(0, 5, 9), 1, 0);
        c.due("build(1, 3, 0)", x.build(1, 3, 0), 0);
        c.due("build(0, 0, 4)", x.build(0, 0, 4), 2);
        c.due("count(2)", x.count(2), 3);
        c.due("count(1)", x.count(1), 4);
        all(x, 0, 1, 1, 5, 9, 2);
        all(x, 0, 2, 2, 0, 4, 0);
        all(x, 1, 0, 3, 3, 0, 1);
        c.refused(x, "build(2, 0, 1)", () -> x.build(2, 0, 1), Check.BAD);
        c.refused(x, "build(-1, 0, 1)", () -> x.build(-1, 0, 1), Check.BAD);
        c.refused(x, "build(0, -1, 1)", () -> x.build(0, -1, 1), Check.BAD);
        c.refused(x, "build(0, 6, 1)", () -> x.build(0, 6, 1), Check.BAD);
        c.refused(x, "build(0, 0, -1)", () -> x.build(0, 0, -1), Check.BAD);
        c.refused(x, "build(0, 0, 10)", () -> x.build(0, 0, 10), Check.BAD);
        RoofLent y = new RoofLent();
        c.refused(y, "build(0, 0, 1) without towers", () -> y.build(0, 0, 1), Check.BAD);
    }

    private static void promise16Full() {
        RoofLent x = Check.on("rh5h1h1h1h1 rh1h1h1h1h1 r");
        c.due("build(0, 0, 1)", x.build(0, 0, 1), 5);
        c.refused(x, "build(0, 0, 1), 6 there", () -> x.build(0, 0, 1), Check.FULL);
        c.refused(x, "build(0, 6, 1), 6 there", () -> x.build(0, 6, 1), Check.BAD);
        c.due("build(2, 0, 1)", x.build(2, 0, 1), 0);
        c.refused(x, "build(2, 0, 1), 12 in all", () -> x.build(2, 0, 1), Check.FULL);
        c.refused(x, "build(1, 0, 1), 12 in all", () -> x.build(1, 0, 1), Check.FULL);
        x.leave(0, 0);
        c.due("build(2, 0, 1), one left", x.build(2, 0, 1), 1);
    }

    private static void promise17() {
        RoofLent x = Check.on("rh1g2l3a4 re5");
        c.told(x, "leave(0, 1)", x.leave(0, 1), 2, 0);
        all(x, 0, 0, 0, 0, 1);
        all(x, 0, 1, 1, 2, 3);
        all(x, 0, 2, 2, 3, 4);
        all(x, 1, 0, 3, 4, 5);
        c.due("tower(0)", x.tower(0), 3);
        c.due("leave(0, 2)", x.leave(0, 2), 0);
        c.due("leave(0, 0)", x.leave(0, 0), 1);
        c.due("leave(1, 0)", x.leave(1, 0), 0);
        c.due("count(1)", x.count(1), 1);
        c.due("count(2)", x.count(2), 4);
        all(x, 0, 0, 0, 2, 3);
        c.finding(x, "leave(1, 0) again", () -> x.leave(1, 0), Check.BEYOND);
        c.finding(x, "leave(0, 1)", () -> x.leave(0, 1), Check.BEYOND);
        c.refused(x, "leave(2, 0)", () -> x.leave(2, 0), Check.BAD);
        c.refused(x, "leave(-1, 0)", () -> x.leave(-1, 0), Check.BAD);
        c.refused(x, "leave(0, -1)", () -> x.leave(0, -1), Check.BAD);
    }

    private static void promise18() {
        RoofLent x = Check.on("rh1g2 r");
        long start = x.digest();
        x.build(1, 3, 4);
        long one = x.digest();
        x.leave(0, 0);
        x.build(0, 5, 7);
        long three = x.digest();
        c.refused(x, "undo(4)", () -> x.undo(4), Check.BAD);
        c.refused(x, "undo(-1)", () -> x.undo(-1), Check.BAD);
        c.told(x, "undo(3)", x.undo(3), 0, 0);
        c.due("digest() behind undo(3)", x.digest(), three);
        c.due("undo(1)", x.undo(1), 2);
        c.due("digest() behind undo(1)", x.digest(), one);
        c.due("count(1)", x.count(1), 3);
        c.due("undo(0)", x.undo(0), 1);
        c.due("digest() behind undo(0)", x.digest(), start);
        c.due("undo(0) again", x.undo(0), 0);
        c.refused(x, "undo(1), none there", () -> x.undo(1), Check.BAD);
        RoofLent y = new RoofLent();
        c.due("undo(0) without towers", y.undo(0), 0);
        c.refused(y, "undo(1) without towers", () -> y.undo(1), Check.BAD);
    }

    private static void promise18Bears() {
        RoofLent x = Check.on("rh1g2 r");
        x.bear(0, 0, 3);
        x.build(1, 3, 4);
        x.bear(0, 0, 5);
        x.bear(1, 0, 6);
        x.build(1, 0, 8);
        x.bear(0, 0, 7);
        c.due("undo(2), bear() behind the last deed stays", x.undo(2), 0);
        c.told(x, "house(0, 0, 2)", x.house(0, 0, 2), 1, 7);
        c.due("undo(1)", x.undo(1), 1);
        c.told(x, "house(0, 0, 2)", x.house(0, 0, 2), 1, 5);
        c.told(x, "house(1, 0, 2)", x.house(1, 0, 2), 1, 6);
        c.due("undo(0)", x.undo(0), 1);
        c.told(x, "house(0, 0, 2)", x.house(0, 0, 2), 1, 3);
        c.due("tower(1)", x.tower(1), 0);
    }

    private static void promise19() {
        RoofLent x = Check.on("rh1 r");
        c.told(x, "keep(0)", x.keep(0), 0, 0);
        x.build(1, 2, 3);
        c.due("keep(2)", x.keep(2), 1);
        c.due("keep(2) again", x.keep(2), 1);
        c.due("count(8)", x.count(8), 2);
        c.refused(x, "keep(3)", () -> x.keep(3), Check.BAD);
        c.refused(x, "keep(-1)", () -> x.keep(-1), Check.BAD);
        RoofLent y = new RoofLent();
        c.refused(y, "keep(0) without towers", () -> y.keep(0), Check.STATE);
        c.refused(y, "keep(3) without towers", () -> y.keep(3), Check.BAD);
        RoofLent z = Check.on("r");
        c.due("keep(1) without houses", z.keep(1), 0);
    }

    private static void promise20() {
        RoofLent x = Check.on("rh1 rg3");
        x.build(1, 2, 3);
        x.bear(0, 0, 8);
        x.keep(1);
        long kept = x.digest();
        x.bear(0, 0, 4);
        x.leave(0, 0);
        x.build(1, 3, 3);
        c.told(x, "on(1)", x.on(1), 1, 0);
        c.due("digest() as it was kept", x.digest(), kept);
        x.leave(1, 0);
        c.due("undo(1) behind on(1)", x.undo(1), 1);
        c.due("digest() behind undo(1)", x.digest(), kept);
        c.due("undo(0), of a deed that was kept", x.undo(0), 1);
        all(x, 0, 0, 0, 0, 1);
        c.due("tower(1)", x.tower(1), 1);
        c.due("on(1), stays kept", x.on(1), 1);
        c.due("digest() as it was kept", x.digest(), kept);
        x.undo(0);
        x.keep(1);
        c.due("on(1), kept over", x.on(1), 0);
        c.finding(x, "on(0)", () -> x.on(0), Check.NOTHING);
        c.refused(x, "on(3)", () -> x.on(3), Check.BAD);
        c.refused(x, "on(-1)", () -> x.on(-1), Check.BAD);
    }

    /** What is kept keeps its own DEEDS, others that were done since have no part in it. */
    private static void promise20OtherDeeds() {
        RoofLent x = Check.on("rh1 rg3");
        x.build(1, 2, 3);
        x.build(0, 4, 5);
        x.keep(2);
        x.undo(0);
        x.leave(0, 0);
        x.leave(1, 0);
        x.build(0, 5, 6);
        x.keep(0);
        c.due("on(2)", x.on(2), 2);
        c.due("HOUSES as kept", Check.signsOf(x).equals("rh1e5 rg3l3") ? 1 : 0, 1);
        c.due("undo(1)", x.undo(1), 1);
        c.due("HOUSES ahead of DEED 1", Check.signsOf(x).equals("rh1 rg3l3") ? 1 : 0, 1);
        c.due("on(0)", x.on(0), 3);
        c.due("HOUSES as kept", Check.signsOf(x).equals("rm6 r") ? 1 : 0, 1);
        c.due("undo(2)", x.undo(2), 1);
        c.due("HOUSES ahead of DEED 2", Check.signsOf(x).equals("r r") ? 1 : 0, 1);
        c.due("undo(1)", x.undo(1), 1);
        c.due("HOUSES ahead of DEED 1", Check.signsOf(x).equals("r rg3") ? 1 : 0, 1);
        c.due("undo(0)", x.undo(0), 1);
        c.due("HOUSES ahead of all", Check.signsOf(x).equals("rh1 rg3") ? 1 : 0, 1);
        c.due("on(2) again", x.on(2), 2);
        c.due("undo(0)", x.undo(0), 2);
        c.due("HOUSES ahead of all", Check.signsOf(x).equals("rh1 rg3") ? 1 : 0, 1);
    }

    private static void fullOfDeeds() {
        RoofLent x = Check.on("r r");
        for (int i = 0; i < 20; i++) {
            c.due("build(1, 0, 0)", x.build(1, 0, 0), 0);
            c.due("leave(1, 0)", x.leave(1, 0), 0);
        }
        c.due("count(2)", x.count(2), 40);
        c.refused(x, "build(1, 0, 0), 40 deeds", () -> x.build(1, 0, 0), Check.FULL);
        c.refused(x, "build(1, 0, 10), 40 deeds", () -> x.build(1, 0, 10), Check.BAD);
        c.finding(x, "leave(1, 0), 40 deeds", () -> x.leave(1, 0), Check.BEYOND);
        c.due("keep(0)", x.keep(0), 40);
        c.due("undo(39)", x.undo(39), 1);
        c.due("tower(1)", x.tower(1), 1);
        c.due("build(0, 0, 0)", x.build(0, 0, 0), 0);
        c.refused(x, "leave(1, 0), 40 deeds", () -> x.leave(1, 0), Check.FULL);
        c.refused(x, "leave(1, -1), 40 deeds", () -> x.leave(1, -1), Check.BAD);
        x.bear(0, 0, 9);
        c.due("best(0, 9), 40 deeds", x.best(0, 9), 0);
        c.due("high(0, 9), 40 deeds", x.high(0, 9), 4);
        c.due("on(0)", x.on(0), 40);
        c.due("undo(1)", x.undo(1), 39);
        c.due("tower(1)", x.tower(1), 1);
    }
}
