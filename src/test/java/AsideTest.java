/** Promises 28 to 32, 35 and 36: what to build, who is to go, how high it goes, and by turns; the rock stays as it is. */
public final class AsideTest {
    private static final int MIN = Integer.MIN_VALUE, MAX = Integer.MAX_VALUE;
    private static final Check c = new Check();

    public static void main(String[] args) {
        promise28();
        promise28None();
        promise29();
        promise29None();
        promise30();
        promise31();
        promise32();
        promise35();
        promise36();
        turnsRefused();
        c.end();
    }

    /** A rock on which asked() tells 77, so that it is seen whether an answer told anything. */
    private static RoofLent on(String rock) {
        RoofLent x = Check.on(rock);
        Check.fill(x, 0, 77);
        x.at(0, 0);
        return x;
    }

    private static void best(String rock, int kind, int v, int want, int asked) {
        RoofLent x = on(rock);
        long before = x.digest();
        c.told(x, "best(" + kind + ", " + v + ") of " + rock, x.best(kind, v), want, asked);
        c.due("best() of " + rock + ", then digest()", x.digest(), before);
    }

    private static void promise28() {
        best("r", 0, 0, 0, 0);
        best("r r", 3, 9, 0, 0);
        best("rh9 r", 0, 5, 0, 1);
        best("rh9 r", 3, 5, 0, 1);
        best("ra9 r", 0, 5, 0, 2);
        best("re9 r", 0, 5, 0, 0);
        best("ra9 rh9", 0, 5, 0, 6);
        best("ra9 r rh9", 0, 5, 2, 4);
        best("rh1 r", 0, 5, 1, 2);
        best("rh2 r", 0, 5, 0, 1);
        best("rh1 r", 1, 5, 0, 0);
        best("rh3 r", 3, 5, 1, 3);
        best("rh1 r", 2, 0, 0, 1);
        best("rh1", 2, 0, Check.NONE, 77);
        best("rh2", 2, 0, 0, 1);
        best("rh0 rh0 rh2", 0, 0, 2, 6);
    }

    private static void promise28None() {
        best("rh1", 0, 5, Check.NONE, 77);
        best("rh0h0", 0, 9, Check.NONE, 77);
        best("rh0h0 r", 1, 9, Check.NONE, 77);
        best("rh9e9e9e9e9e9", 1, 9, Check.NONE, 77);
        best("rh9e9e9e9e9e9 r", 1, 9, 1, 1);
        best("rh9e9e9e9e9e9 rh9e9e9e9e9e9 r", 1, 9, Check.NONE, 77);
        RoofLent x = on("rh9 r");
        c.refused(x, "best(-1, 0)", () -> x.best(-1, 0), Check.BAD);
        c.refused(x, "best(6, 0)", () -> x.best(6, 0), Check.BAD);
        c.refused(x, "best(0, -1)", () -> x.best(0, -1), Check.BAD);
        c.refused(x, "best(0, 10)", () -> x.best(0, 10), Check.BAD);
        RoofLent y = new RoofLent();
        c.refused(y, "best(0, 0) without towers", () -> y.best(0, 0), Check.STATE);
        c.refused(y, "best(6, 0) without towers", () -> y.best(6, 0), Check.BAD);
    }

    private static void both(String rock, int kind, int other, int v, int want, int asked) {
        RoofLent x = on(rock);
        long before = x.digest();
        c.told(x, "both(" + kind + ", " + other + ", " + v + ") of " + rock, x.both(kind, other, v), want, asked);
        c.due("both() of " + rock + ", then digest()", x.digest(), before);
    }

    private static void promise29() {
        both("r", 0, 0, 2, 0, 1);
        both("r", 0, 1, 1, 0, 0);
        both("r", 1, 0, 2, 0, 1);
        both("r r", 0, 0, 1, 1, 2);
        both("r r r", 1, 1, 9, 0, 0);
        both("r r", 3, 0, 3, 0, 2);
        both("r r", 0, 3, 3, 1, 3);
        both("rh9 r", 4, 0, 9, 0, 1);
        both("rh1 r", 0, 1, 0, 10, 2);
        both("rh1 r", 1, 0, 0, 1, 2);
    }

    private static void promise29None() {
        both("r", 0, 0, 1, Check.NONE, 77);
        both("rh3", 0, 0, 9, Check.NONE, 77);
        both("rh0h0 r", 0, 0, 9, Check.NONE, 77);
        both("re9e9e9e9e9", 1, 1, 9, Check.NONE, 77);
        both("re9e9e9e9", 1, 1, 9, 0, 0);
        both("re9e9e9e9e9e9 re9e9e9e9e9 r", 1, 1, 9, Check.NONE, 77);
        both("re9e9e9e9e9e9 re9e9e9e9 r", 1, 1, 9, 11, 0);
        RoofLent x = on("rh9 r");
        c.refused(x, "both(-1, 0, 0)", () -> x.both(-1, 0, 0), Check.BAD);
        c.refused(x, "both(6, 0, 0)", () -> x.both(6, 0, 0), Check.BAD);
        c.refused(x, "both(0, -1, 0)", () -> x.both(0, -1, 0), Check.BAD);
        c.refused(x, "both(0, 6, 0)", () -> x.both(0, 6, 0), Check.BAD);
        c.refused(x, "both(0, 0, -1)", () -> x.both(0, 0, -1), Check.BAD);
        c.refused(x, "both(0, 0, 10)", () -> x.both(0, 0, 10), Check.BAD);
        RoofLent y = new RoofLent();
        c.refused(y, "both(0, 0, 0) without towers", () -> y.both(0, 0, 0), Check.STATE);
        c.refused(y, "both(0, 0, 10) without towers", () -> y.both(0, 0, 10), Check.BAD);
    }

    private static void fewest(String rock, int want, int asked) {
        RoofLent x = on(rock);
        long before = x.digest();
        c.told(x, "fewest() of " + rock, x.fewest(), want, asked);
        c.due("fewest() of " + rock + ", then digest()", x.digest(), before);
    }

    private static void promise30() {
        fewest("", 0, 0);
        fewest("r", 0, 0);
        fewest("rh9h9", 0, 0);
        fewest("rh0h0", 1, 1);
        fewest("rh2h0h0", 1, 2);
        fewest("rh0h0h0", 2, 3);
        fewest("rh0h0h0h0", 3, 7);
        fewest("rh0h0h0h0h0", Check.NONE, 77);
        fewest("rh0h0 rh0h0", 2, 5);
        fewest("rh0l0 rh0", 1, 2);
        fewest("rh2l0 rh0", 1, 2);
        fewest("rh2g9l0 rh9h0", 1, 4);
        fewest("rh9h9l9 rh9h1h9", 1, 16);
        fewest("rh9h9l9 rh9h9h0", 1, 1);
        fewest("rh0h0 rh0h0 rh0h0", 3, 1 | 4 | 16);
        fewest("rh0h0 rh0h0 rh0h0 rh0h0", Check.NONE, 77);
    }

    private static void relief(String rock, int want, int asked) {
        RoofLent x = on(rock);
        long before = x.digest();
        c.told(x, "relief() of " + rock, x.relief(), want, asked);
        c.due("relief() of " + rock + ", then digest()", x.digest(), before);
    }

    private static void promise31() {
        relief("r", Check.NONE, 77);
        relief("", Check.NONE, 77);
        relief("rh9", 0, 0);
        relief("rh9h9", 1, 1);
        relief("rh9 rh9", 0, 1);
        relief("rh9 rg9", 0, 1);
        relief("rg9 rh9", 1, 1);
        relief("rh9 rh9h9", 2, 2);
        relief("rh9m9", 0, 0);
        relief("rh9 rh9 rh9", 0, 1);
        relief("rm9h9 r rh9h9", 1, 2);
        relief("rm9a9m9 r rm9m9l9m9g9m9", 0, -1);
    }

    private static void high(String rock, int t, int v, int want) {
        RoofLent x = on(rock);
        long before = x.digest();
        c.told(x, "high(" + t + ", " + v + ") of " + rock, x.high(t, v), want, 77);
        c.due("high() of " + rock + ", then digest()", x.digest(), before);
    }

    private static void promise32() {
        high("r", 0, 9, 5);
        high("r", 0, 8, 5);
        high("r", 0, 7, 4);
        high("r", 0, 2, 2);
        high("r", 0, 1, 1);
        high("r", 0, 0, 1);
        high("rh1", 0, 9, 0);
        high("rh2 r", 0, 9, 1);
        high("re9e9e9e9e9", 0, 9, 1);
        high("re9e9e9e9e9e9 r", 0, 9, 0);
        high("re9e9e9e9e9e9 re9e9e9e9 r", 2, 9, 2);
        high("re9e9e9e9e9e9 re9e9e9e9e9e9 r", 2, 9, 0);
        high("rh0h0 r", 1, 9, 0);
        high("rh9l9 r", 1, 0, 0);
        high("rh9l9 r", 1, 2, 1);
        high("rh9l9 r", 1, 3, 2);
        high("rh9l9 rh3", 1, 1, 1);
        high("rh9l9 rh3", 1, 0, 0);
        RoofLent x = on("rh9 r");
        c.refused(x, "high(2, 0)", () -> x.high(2, 0), Check.BAD);
        c.refused(x, "high(-1, 0)", () -> x.high(-1, 0), Check.BAD);
        c.refused(x, "high(0, -1)", () -> x.high(0, -1), Check.BAD);
        c.refused(x, "high(0, 10)", () -> x.high(0, 10), Check.BAD);
        RoofLent y = new RoofLent();
        c.refused(y, "high(0, 0) without towers", () -> y.high(0, 0), Check.BAD);
    }

    private static void turns(String rock, int v, int n, int game, int begin) {
        RoofLent x = on(rock);
        long before = x.digest();
        c.told(x, "game(" + v + ", " + n + ") of " + rock, x.game(v, n), game, 77);
        c.told(x, "begin(" + v + ", " + n + ") of " + rock, x.begin(v, n), begin, 77);
        c.due("by turns on " + rock + ", then digest()", x.digest(), before);
    }

    private static void promise35() {
        for (int n = 0; n <= 4; n++) {
            turns("r r", 9, n, n % 2, n % 2 == 1 ? 0 : Check.NONE);
            turns("rh0h0 r", 9, n, 0, Check.NONE);
            turns("re9e9e9e9e9e9", 9, n, 0, Check.NONE);
            turns("re9e9e9e9e9", 9, n, n == 0 ? 0 : 1, n == 0 ? Check.NONE : 0);
            turns("re9e9e9e9e9e9 re9e9e9e9e9e9 r", 0, n, 0, Check.NONE);
        }
        turns("r", 0, 4, 1, 0);
        turns("r", 2, 4, 0, Check.NONE);
        turns("r", 4, 3, 1, 0);
        turns("r r", 0, 4, 0, Check.NONE);
        turns("r r r", 0, 4, 1, 0);
    }

    private static void promise36() {
        turns("rh0 r", 0, 4, 1, 1);
        turns("rh0 rh0 r", 0, 3, 1, 2);
        turns("rh9l9 r", 0, 1, 1, 0);
        turns("rh9 rh0h0", 9, 4, 0, Check.NONE);
    }

    private static void turnsRefused() {
        RoofLent x = on("rh9 r");
        RoofLent y = new RoofLent();
        int[][] bad = {{-1, 0}, {10, 0}, {0, -1}, {0, 5}, {MIN, 0}, {0, MAX}};
        for (int[] each : bad) {
            c.refused(x, "game(" + each[0] + ", " + each[1] + ")", () -> x.game(each[0], each[1]), Check.BAD);
            c.refused(x, "begin(" + each[0] + ", " + each[1] + ")", () -> x.begin(each[0], each[1]), Check.BAD);
            c.refused(y, "game() without towers", () -> y.game(each[0], each[1]), Check.BAD);
            c.refused(y, "begin() without towers", () -> y.begin(each[0], each[1]), Check.BAD);
        }
        c.refused(y, "game(0, 0) without towers", () -> y.game(0, 0), Check.STATE);
        c.refused(y, "begin(0, 0) without towers", () -> y.begin(0, 0), Check.STATE);
    }
}
