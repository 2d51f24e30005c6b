/** 40 places, 60 bytes, 5 TOWERS, 6 HOUSES there, 12 in all, 40 DEEDS, 3 kept ROCKS, 5 of LIGHT: what still goes, what no more. */
public final class FullTest {
    private static final int FULL = Check.FULL, STATE = Check.STATE, NONE = Check.NONE;
    private static final int BEYOND = Check.BEYOND, SIZE = Check.SIZE;
    private static final String TWELVE = "rh9h9h9h9h9h9 rh9h9h9h9h9h9";
    private static final Check c = new Check();

    public static void main(String[] args) {
        fullRows();
        beyondFullRows();
        fullRowCopied();
        rowAnew();
        fullTexts();
        beyondFullTexts();
        faultsAtTheEnd();
        fullRocks();
        fifthTower();
        seventhHouse();
        thirteenthHouse();
        sixThere();
        twelveInAll();
        twelveAsked();
        elevenInAll();
        fortyDeeds();
        fortyDeedsAsked();
        fortyDeedsUndone();
        lotsAheadOfForty();
        threeKept();
        fiveOfLight();
        c.end();
    }

    private static RoofLent on(String rock) {
        RoofLent x = Check.on(rock);
        Check.fill(x, 5, 77);
        x.at(5, 0);
        return x;
    }

    private static void fullRows() {
        RoofLent x = new RoofLent();
        for (int r = 0; r < 6; r++) {
            c.due("row(r, 40)", x.row(r, 40), 40);
        }
        for (int r = 0; r < 6; r++) {
            for (int i = 0; i < 40; i++) {
                c.due("lay(r, i)", x.lay(r, i, 100 * r + i), 1);
            }
        }
        for (int r = 0; r < 6; r++) {
            for (int i = r % 3; i < 40; i += 3) {
                c.told(x, "at(r, i)", x.at(r, i), 1, 100 * r + i);
            }
            // 0 to 39 come to 780, by 40 to 19 and a half.
            c.told(x, "mean(r)", x.mean(r), 1, 100 * r + 19);
        }
        c.due("count(6)", x.count(6), 6);
    }

    private static void beyondFullRows() {
        RoofLent x = new RoofLent();
        for (int each = 0; each < 6; each++) {
            int r = each;
            x.row(r, 40);
            c.told(x, "lay(r, 39, 7)", x.lay(r, 39, 7), 1, 0);
            c.refusal(x, "lay(r, 40)", () -> x.lay(r, 40, 9), BEYOND);
            c.refusal(x, "at(r, 40)", () -> x.at(r, 40), BEYOND);
            c.refusal(x, "row(r, 41)", () -> x.row(r, 41), Check.BAD);
            c.told(x, "at(r, 39)", x.at(r, 39), 1, 7);
        }
    }

    private static void fullRowCopied() {
        RoofLent x = new RoofLent();
        x.row(0, 40);
        x.row(5, 40);
        for (int i = 0; i < 40; i++) {
            x.lay(0, i, i + 1);
        }
        c.due("copy(0, 0, 5, 0, 40)", x.copy(0, 0, 5, 0, 40), 1);
        c.refusal(x, "copy(0, 0, 5, 0, 41)", () -> x.copy(0, 0, 5, 0, 41), BEYOND);
        c.refusal(x, "copy(0, 1, 5, 0, 40)", () -> x.copy(0, 1, 5, 0, 40), BEYOND);
        c.refusal(x, "copy(0, 0, 5, 1, 40)", () -> x.copy(0, 0, 5, 1, 40), BEYOND);
        c.due("copy(0, 0, 0, 1, 39)", x.copy(0, 0, 0, 1, 39), 1);
        c.due("copy(5, 1, 5, 0, 39)", x.copy(5, 1, 5, 0, 39), 1);
        for (int i = 0; i < 40; i++) {
            c.told(x, "at(0, i), as if taken ahead", x.at(0, i), 1, Math.max(1, i));
            c.told(x, "at(5, i), as if taken ahead", x.at(5, i), 1, Math.min(40, i + 2));
        }
        c.due("copy(0, 40, 5, 40, 0)", x.copy(0, 40, 5, 40, 0), 1);
        c.refusal(x, "copy(0, 41, 5, 0, 0)", () -> x.copy(0, 41, 5, 0, 0), BEYOND);
        c.refusal(x, "copy(0, 0, 5, 41, 0)", () -> x.copy(0, 0, 5, 41, 0), BEYOND);
    }

    /** A ROW, a TEXT that is made shorter and longer again holds nothing of what it held. */
    private static void rowAnew() {
        RoofLent x = new RoofLent();
        Check.fill(x, 3, 1, 2, 3, 4);
        c.due("row(3, 2)", x.row(3, 2), 2);
        c.due("row(3, 40)", x.row(3, 40), 40);
        for (int i = 0; i < 40; i++) {
            c.told(x, "at(3, i) anew", x.at(3, i), 1, 0);
        }
        Check.write(x, 2, "rh9h9");
        c.due("text(2, 1)", x.text(2, 1), 1);
        c.due("text(2, 60)", x.text(2, 60), 60);
        for (int i = 0; i < 60; i++) {
            c.due("put(2, i) anew", x.put(2, i, 7), 1032);
        }
    }

    private static void fullTexts() {
        RoofLent x = new RoofLent();
        for (int t = 0; t < 4; t++) {
            c.due("text(t, 60)", x.text(t, 60), 60);
        }
        for (int t = 0; t < 4; t++) {
            for (int i = 0; i < 60; i++) {
                c.due("put(t, i)", x.put(t, i, 60 * t - i), 1032);
            }
        }
        for (int t = 0; t < 4; t++) {
            for (int i = 0; i < 60; i++) {
                c.due("put(t, i) again", x.put(t, i, 0), 1000 + (byte) (60 * t - i));
            }
        }
        c.due("count(7)", x.count(7), 4);
    }

    private static void beyondFullTexts() {
        RoofLent x = new RoofLent();
        for (int each = 0; each < 4; each++) {
            int t = each;
            x.text(t, 60);
            c.due("put(t, 59, 7)", x.put(t, 59, 7), 1032);
            c.refusal(x, "put(t, 60, 1)", () -> x.put(t, 60, 1), BEYOND);
            c.refusal(x, "text(t, 61)", () -> x.text(t, 61), Check.BAD);
            c.due("put(t, 59, 8)", x.put(t, 59, 8), 1007);
        }
    }

    private static void faultOf(String signs, int want) {
        RoofLent x = new RoofLent();
        Check.write(x, 2, signs);
        c.due("fault of '" + signs + "'", x.fault(2), want);
        if (want == NONE) {
            c.due("rock of '" + signs + "'", x.rock(2), signs.replaceAll("[^r]", "").length());
        } else {
            c.refusal(x, "rock of '" + signs + "'", () -> x.rock(2), STATE);
        }
    }

    private static void faultsAtTheEnd() {
        String blanks = " ".repeat(57);
        faultOf("   " + blanks, 60);
        faultOf("  " + blanks + "r", NONE);
        faultOf("r  " + blanks, NONE);
        faultOf("r " + blanks + "h", 60);
        faultOf("r" + blanks + "h9", NONE);
        faultOf("r" + blanks + "h ", 59);
        faultOf("r " + blanks + "x", 59);
        faultOf("r " + blanks + "r", NONE);
        faultOf("  " + blanks + "9", 59);
        faultOf("  " + blanks + "h", 59);
        faultOf("rrrrr" + " ".repeat(54) + "r", 59);
        faultOf("rh9h9h9h9h9h9" + " ".repeat(46) + "h", 59);
    }

    private static void fullRocks() {
        faultOf(" r h9h8h7 r g6e5 r l4m3 r a2a1a0 r h0g1                     ", NONE);
        faultOf("rh9h8h7rg6e5rl4m3ra2a1a0rh0g1", NONE);
        faultOf("rh9h8h7rg6e5rl4m3ra2a1a0rh0g1r", 29);
        faultOf("rh9h8h7rg6e5rl4m3ra2a1a0rh0g1 r", 30);
        faultOf("rh9h8h7rg6e5rl4m3ra2a1a0rh0g1 h1", 30);
        faultOf("rh9h8h7rg6e5rl4m3ra2a1a0rh0g1x", 29);
        faultOf("rh9h8h7rg6e5rl4m3ra2a1a0rh0g1    ", NONE);
        faultOf("rh9h8h7rg6e5rl4m3ra2a1a0rh0g", 28);
        RoofLent x = Check.on("rh9h8h7rg6e5rl4m3ra2a1a0rh0g1");
        int[] kinds = {0, 0, 0, 1, 4, 2, 5, 3, 3, 3, 0, 1};
        int[] bears = {9, 8, 7, 6, 5, 4, 3, 2, 1, 0, 0, 1};
        int number = 0;
        for (int t = 0; t < 5; t++) {
            for (int s = 0; s < x.tower(t); s++) {
                c.told(x, "house(t, s, 0)", x.house(t, s, 0), 1, number);
                c.told(x, "house(t, s, 1)", x.house(t, s, 1), 1, kinds[number]);
                c.told(x, "house(t, s, 2)", x.house(t, s, 2), 1, bears[number]);
                number++;
            }
        }
        c.due("all HOUSES", number, 12);
    }

    /** East of the fifth TOWER there is none, west of the first there is none. */
    private static void fifthTower() {
        RoofLent x = on("rl9g9 rh9 rh9 rh9 rh9l9m9");
        c.told(x, "mark(4, 1, 2)", x.mark(4, 1, 2), 0, 77);
        c.due("mark(4, 2, 2)", x.mark(4, 2, 2), 0);
        c.due("mark(4, 2, 5)", x.mark(4, 2, 5), 2);
        c.due("mark(0, 0, 2)", x.mark(0, 0, 2), 1);
        c.due("mark(0, 1, 1): of three HOUSES, one of them in the fifth TOWER", x.mark(0, 1, 1), 3);
        c.due("shades(4, 0, 4)", x.shades(4, 0, 4), NONE);
        c.due("shades(4, 0, 3)", x.shades(4, 0, 3), NONE);
        c.due("shades(4, 0, 0)", x.shades(4, 0, 0), 4);
        c.due("shades(0, 0, 0)", x.shades(0, 0, 0), NONE);
        c.due("shades(0, 0, 1)", x.shades(0, 0, 1), NONE);
        c.due("sees(4, 2)", x.sees(4, 2), 31);
        c.told(x, "house(4, 0, 3), all lean on their own", x.house(4, 0, 3), 1, 4);
        c.told(x, "house(4, 1, 3)", x.house(4, 1, 3), 1, 2);
        c.told(x, "house(4, 2, 3)", x.house(4, 2, 3), 1, 0);
        c.told(x, "house(1, 0, 3)", x.house(1, 0, 3), 1, 1);
        c.told(x, "house(0, 0, 3), none to the west", x.house(0, 0, 3), 1, 1);
        c.told(x, "best(0, 9)", x.best(0, 9), 4, 15);
        c.due("high(4, 9)", x.high(4, 9), 2);
        c.due("build(4, 2, 9)", x.build(4, 2, 9), 3);
        c.told(x, "house(4, 0, 3)", x.house(4, 0, 3), 1, 6);
    }

    private static void seventhHouse() {
        for (String letter : new String[] {"h", "g", "l", "a", "e", "m"}) {
            String six = (letter + "5").repeat(6);
            faultOf("r" + six, NONE);
            faultOf("r" + six + letter + "5", 13);
            faultOf("r" + six + letter, 13);
            faultOf("r" + six + "  " + letter + "5", 15);
            faultOf("rr" + six + "h5", 14);
            faultOf("rrrrr" + six + "h5", 17);
            faultOf("r" + six + "rh5", NONE);
            faultOf("r" + six + "5", 13);
        }
    }

    private static void thirteenthHouse() {
        String six = "a5".repeat(6);
        faultOf("r" + six + "r" + six, NONE);
        faultOf("r" + six + "r" + six + "rrr", NONE);
        faultOf("r" + six + "r" + six + "rrra5", 29);
        faultOf("r" + six + "r" + six + "ra", 27);
        faultOf("rr" + six + "rr" + six + "rg0", 29);
        faultOf("ra5a5ra5a5ra5a5ra5a5ra5a5a5a5", NONE);
        faultOf("ra5a5ra5a5ra5a5ra5a5ra5a5a5a5a5", 29);
    }

    private static void sixThere() {
        RoofLent x = on("re9e9e9e9e9 rh9");
        c.due("high(0, 9), one more", x.high(0, 9), 1);
        c.due("build(0, 4, 9), the sixth", x.build(0, 4, 9), 5);
        c.refusal(x, "build(0, 4, 9), a seventh", () -> x.build(0, 4, 9), FULL);
        c.due("high(0, 9), none", x.high(0, 9), 0);
        c.told(x, "best(4, 9) goes to the other", x.best(4, 9), 1, 0);
        c.told(x, "both(4, 4, 9) goes to the other", x.both(4, 4, 9), 11, 0);
        c.due("count(3)", x.count(3), 6);
        c.due("leave(0, 5)", x.leave(0, 5), 0);
        c.due("leave(0, 0), all others come down", x.leave(0, 0), 4);
        c.due("build(0, 0, 9)", x.build(0, 0, 9), 4);
        RoofLent y = on("re9e9e9e9e9e9");
        c.told(y, "best(4, 9), 6 there", y.best(4, 9), NONE, 77);
        c.told(y, "both(4, 4, 9), 6 there", y.both(4, 4, 9), NONE, 77);
        c.due("game(9, 4), 6 there", y.game(9, 4), 0);
        c.due("begin(9, 4), 6 there", y.begin(9, 4), NONE);
        c.due("lots(12, 1), 6 there", y.lots(12, 1), 0);
        RoofLent z = on("re9e9e9e9e9");
        c.told(z, "both(4, 4, 9), 5 there", z.both(4, 4, 9), NONE, 77);
        c.due("game(9, 4), one more", z.game(9, 4), 1);
    }

    private static void twelveInAll() {
        RoofLent x = on("re9e9e9e9e9e9 re9e9e9e9e9 r");
        c.due("high(2, 9), one more", x.high(2, 9), 1);
        c.due("build(2, 4, 9), the twelfth", x.build(2, 4, 9), 0);
        for (int each = 0; each < 3; each++) {
            int t = each;
            c.refusal(x, "build(t, 4, 9), a thirteenth", () -> x.build(t, 4, 9), FULL);
            c.due("high(t, 9), none", x.high(t, 9), 0);
        }
        c.told(x, "best(4, 9)", x.best(4, 9), NONE, 77);
        c.told(x, "both(4, 4, 9)", x.both(4, 4, 9), NONE, 77);
        c.due("game(9, 4)", x.game(9, 4), 0);
        c.due("begin(9, 4)", x.begin(9, 4), NONE);
        c.due("lots(12, 1)", x.lots(12, 1), 0);
        c.due("count(1)", x.count(1), 12);
        c.due("count(2)", x.count(2), 1);
    }

    /** Each that is not on top is shaded by the one above it, by the other TOWER's beside it and by the one above that. */
    private static void twelveAsked() {
        RoofLent x = on(TWELVE);
        c.told(x, "house(1, 5, 0)", x.house(1, 5, 0), 1, 11);
        c.told(x, "light()", x.light(), 2 * (5 * 2 + 4), 2 * (5 * 3 + 1));
        c.told(x, "debt(11)", x.debt(11), 1, 2);
        c.due("owes(11, 5)", x.owes(11, 5), 1);
        c.due("owes(11, 4)", x.owes(11, 4), 1);
        c.due("owes(10, 11)", x.owes(10, 11), 0);
        c.due("shades(0, 5, 4)", x.shades(0, 5, 4), 11);
        c.due("shades(1, 0, 1)", x.shades(1, 0, 1), 1);
        c.told(x, "ruined()", x.ruined(), 1, 3);
        c.told(x, "sways()", x.sways(), 0, 2);
        c.told(x, "fewest()", x.fewest(), 2, 1 | 64);
        c.told(x, "relief()", x.relief(), 5, 3);
        c.due("settle()", x.settle(), 2);
        c.told(x, "rings()", x.rings(), 4095, 6);
        Check.fill(x, 0, 2, 2, 2, 2, 2, 4, 2, 2, 2, 2, 2, 4);
        c.told(x, "fog()", x.fog(0), 1, 0);
        c.due("kinds(1, 5)", x.kinds(1, 5, 0), 1 | 4 | 8);
        x.row(0, 11);
        c.refusal(x, "fog() by 11", () -> x.fog(0), SIZE);
        x.row(0, 13);
        c.refusal(x, "fog() by 13", () -> x.fog(0), SIZE);
    }

    private static void elevenInAll() {
        RoofLent x = on("re9e9e9e9e9 re9e9e9e9e9e9 rr");
        c.told(x, "best(4, 9)", x.best(4, 9), 0, 0);
        c.told(x, "both(4, 4, 9)", x.both(4, 4, 9), NONE, 0);
        c.due("high(2, 9)", x.high(2, 9), 1);
        c.due("game(9, 1)", x.game(9, 1), 1);
        c.due("game(9, 4), there is no second", x.game(9, 4), 1);
        c.due("begin(9, 4)", x.begin(9, 4), 0);
        c.due("lots(12, 1)", x.lots(12, 1), 1);
        RoofLent y = on("re9e9e9e9 re9e9e9e9e9e9 rr");
        c.told(y, "both(4, 4, 9)", y.both(4, 4, 9), 0, 0);
        c.due("high(3, 9)", y.high(3, 9), 2);
        c.due("game(9, 4), there is no third", y.game(9, 4), 0);
    }

    /** 40 DEEDS: in turn a HOUSE is BUILT on a TOWER and LEAVES it. */
    private static RoofLent busy(int deeds) {
        RoofLent x = on("rh9 r");
        for (int i = 0; i < deeds; i++) {
            if (i % 2 == 0) {
                x.build(1, i / 2 % 6, i % 10);
            } else {
                x.leave(1, 0);
            }
        }
        return x;
    }

    private static void fortyDeeds() {
        RoofLent x = busy(39);
        c.due("count(2)", x.count(2), 39);
        c.due("leave(1, 0), the last DEED", x.leave(1, 0), 0);
        c.refusal(x, "build(1, 0, 9), 40 DEEDS", () -> x.build(1, 0, 9), FULL);
        c.refusal(x, "leave(0, 0), 40 DEEDS", () -> x.leave(0, 0), FULL);
        c.refusal(x, "lots(1, 1), 40 DEEDS", () -> x.lots(1, 1), FULL);
        c.due("bear() is no DEED", x.bear(0, 0, 8), 9);
        c.due("keep(0)", x.keep(0), 40);
        c.due("undo(40): none, all stays", x.undo(40), 0);
        c.told(x, "house(0, 0, 2)", x.house(0, 0, 2), 1, 8);
        c.due("undo(38)", x.undo(38), 2);
        c.told(x, "house(0, 0, 2), as ahead of them", x.house(0, 0, 2), 1, 9);
        c.due("build(1, 0, 9), 38 DEEDS", x.build(1, 0, 9), 0);
        c.due("build(1, 0, 9), 39 DEEDS", x.build(1, 0, 9), 1);
        c.refusal(x, "build(1, 0, 9), 40 DEEDS anew", () -> x.build(1, 0, 9), FULL);
        c.due("on(0)", x.on(0), 40);
        c.due("tower(1)", x.tower(1), 0);
        c.due("undo(39), of a kept ROCK", x.undo(39), 1);
        c.due("tower(1), undone", x.tower(1), 1);
    }

    /** What is only tried out is no DEED. */
    private static void fortyDeedsAsked() {
        RoofLent x = busy(40);
        c.told(x, "best(0, 9)", x.best(0, 9), 0, 1);
        c.told(x, "both(0, 1, 9)", x.both(0, 1, 9), 0, 1);
        c.due("high(1, 9)", x.high(1, 9), 5);
        c.due("game(9, 1)", x.game(9, 1), 1);
        c.due("begin(9, 1)", x.begin(9, 1), 0);
        c.told(x, "fewest()", x.fewest(), 0, 0);
        c.told(x, "relief()", x.relief(), 0, 0);
        Check.fill(x, 1, 5);
        c.due("kinds(0, 0, 1)", x.kinds(0, 0, 1), 63);
        c.due("count(2)", x.count(2), 40);
    }

    private static void fortyDeedsUndone() {
        long[] ahead = new long[41];
        for (int n = 0; n <= 40; n++) {
            ahead[n] = busy(n).digest();
        }
        for (int n = 0; n <= 40; n++) {
            RoofLent x = busy(40);
            c.due("undo(n) of 40", x.undo(n), 40 - n);
            c.due("digest() behind undo(n)", x.digest(), ahead[n]);
            c.due("count(2) behind undo(n)", x.count(2), n);
        }
        RoofLent y = busy(40);
        for (int n = 39; n >= 0; n--) {
            c.due("undo(n), one by one", y.undo(n), 1);
            c.due("digest(), one by one", y.digest(), ahead[n]);
        }
        c.due("tower(1)", y.tower(1), 0);
        c.due("tower(0)", y.tower(0), 1);
    }

    private static void lotsAheadOfForty() {
        for (int n = 1; n <= 12; n++) {
            int many = n;
            RoofLent x = busy(41 - n);
            c.refusal(x, "lots(n, 1), 41 - n DEEDS", () -> x.lots(many, 1), FULL);
            RoofLent y = busy(40 - n);
            c.due("lots(n, 1), 40 - n DEEDS, refused", y.lots(many, 1) < 0 ? 1 : 0, 0);
        }
        RoofLent z = busy(29);
        for (int i = 0; i < 10; i++) {
            z.build(i % 2, 4, 9);
        }
        c.due("count(1)", z.count(1), 12);
        c.due("count(2)", z.count(2), 39);
        c.refusal(z, "lots(2, 1), though all would be passed over", () -> z.lots(2, 1), FULL);
    }

    private static void threeKept() {
        RoofLent x = on("rh9 r");
        long[] digests = new long[3];
        for (int k = 0; k < 3; k++) {
            c.due("build(1, k, 9)", x.build(1, k, 9), k);
            c.due("keep(k)", x.keep(k), k + 1);
        }
        c.due("count(8)", x.count(8), 3);
        for (int k = 0; k < 3; k++) {
            c.due("on(k)", x.on(k), k + 1);
            c.due("tower(1), as kept", x.tower(1), k + 1);
            digests[k] = x.digest();
            x.leave(1, 0);
            x.bear(0, 0, k);
        }
        for (int k = 2; k >= 0; k--) {
            c.due("on(k) again", x.on(k), k + 1);
            c.due("digest(), as kept", x.digest(), digests[k]);
            c.due("undo(0)", x.undo(0), k + 1);
            c.due("tower(1), undone", x.tower(1), 0);
        }
        c.due("keep(1), over what was kept", x.keep(1), 0);
        c.due("count(8)", x.count(8), 3);
        c.due("on(0)", x.on(0), 1);
        c.due("on(1)", x.on(1), 0);
        c.due("on(2)", x.on(2), 3);
    }

    private static void light(String rock, int t, int s, int want) {
        RoofLent x = on(rock);
        c.told(x, "LIGHT of " + t + ", " + s + " of " + rock, x.house(t, s, 4), 1, want);
    }

    private static void fiveOfLight() {
        light("rh9", 0, 0, 5);
        light("rm9", 0, 0, 5);
        light("rh9h9", 0, 0, 4);
        light("rh9m9", 0, 0, 5);
        light("rh9m9m9", 0, 0, 5);
        light("rh9m9m9m9m9m9", 0, 0, 5);
        light("rh9m9 rh9", 0, 0, 4);
        light("rh9m9m9 rh9", 0, 0, 5);
        light("rh9m9m9m9 rh9", 0, 0, 5);
        light("rh9h9 rh9m9 rh9h9", 1, 0, 1);
        light("rh9h9 rh9m9m9m9m9 rh9h9", 1, 0, 4);
        light("rh9h9 rh9m9m9m9m9m9 rh9h9", 1, 0, 5);
        light("rh9 rh9m9m9m9m9m9 rh9", 1, 0, 5);
        RoofLent x = on("rh9m9m9m9m9m9");
        c.told(x, "light()", x.light(), 6 * 5, 5);
    }
}
