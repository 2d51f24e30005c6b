/**
 * Of each number that is given: all that are taken, from the least to the most, and what is not taken on both sides (the
 * first one, those that wrap around in a sum or a product or are cut to a byte, the least and the greatest int).
 */
public final class RangesTest {
    private static final int MIN = Integer.MIN_VALUE, MAX = Integer.MAX_VALUE;
    private static final int BAD = Check.BAD, BEYOND = Check.BEYOND, SIZE = Check.SIZE;
    // By 6, 30, 40 or 60 some of these wrap around to small numbers, by a byte or a short they are cut to such.
    private static final int[] WRAPPING = {MIN, MIN + 1, -(1 << 30), -65536, -256, -255, -64, -32, -6, 32, 64, 255, 256, 257,
        65536, 65537, 71582789, 107374183, 143165577, 357913942, 715827883, 1 << 27, 1 << 28, 1 << 29, 1 << 30,
        (1 << 30) + 1, MAX - 1, MAX};
    private static final int FEW = 100;
    private static final int[] STOREYS = {2, 2, 2, 1, 2};
    private static final Check c = new Check();

    private interface Call {
        int of(RoofLent x, int v);
    }

    private interface PlaceCall {
        int of(RoofLent x, int t, int s);
    }

    public static void main(String[] args) {
        rows();
        copies();
        texts();
        rocks();
        houses();
        deeds();
        lightAndDebts();
        asideAndByTurns();
        seenAndLots();
        told();
        c.end();
    }

    /** 5 TOWERS, in each one KIND alone, 9 HOUSES, 2 DEEDS; all ROWS (of 9), TEXTS (of 9) and kept ROCKS that can be. */
    private static RoofLent ready() {
        RoofLent x = Check.on("rg9g9 rl9l9 ra9 re9 rm9");
        x.build(2, 3, 9);
        x.build(4, 5, 9);
        for (int r = 0; r < 6; r++) {
            x.row(r, 9);
        }
        for (int t = 0; t < 4; t++) {
            Check.write(x, t, "rh9h9rrh9");
        }
        for (int k = 0; k < 3; k++) {
            x.keep(k);
        }
        x.odds(0, 0);
        x.light();
        return x;
    }

    private static void taken(String call, Call run, int v) {
        int answer = run.of(ready(), v);
        c.due("whether " + call + " is refused with " + v, answer < 0 && answer != Check.NONE ? 1 : 0, 0);
    }

    private static void refused(String call, Call run, int v, int want) {
        RoofLent x = ready();
        c.refusal(x, call + " with " + v, () -> run.of(x, v), want);
    }

    private static void range(String call, int least, int most, int below, int above, Call run) {
        boolean areFew = (long) most - least < FEW;
        for (int v = least; areFew && v <= most; v++) {
            taken(call, run, v);
        }
        taken(call, run, least);
        taken(call, run, most);
        if (least > MIN) {
            refused(call, run, least - 1, below);
        }
        if (most < MAX) {
            refused(call, run, most + 1, above);
        }
        for (int v : WRAPPING) {
            if (v < least || v > most) {
                refused(call, run, v, v < least ? below : above);
            } else {
                taken(call, run, v);
            }
        }
    }

    private static void number(String call, int least, int most, Call run) {
        range(call, least, most, BAD, BAD, run);
    }

    private static void anyInt(String call, Call run) {
        range(call, MIN, MAX, BAD, BAD, run);
    }

    /** BAD: no TOWER, a STOREY below 0; BEYOND. */
    private static void place(String call, PlaceCall run) {
        number(call + ", the TOWER", 0, 4, (x, v) -> run.of(x, v, 0));
        for (int t = 0; t < STOREYS.length; t++) {
            int tower = t;
            range(call + ", the STOREY in TOWER " + t, 0, STOREYS[t] - 1, BAD, BEYOND, (x, v) -> run.of(x, tower, v));
        }
    }

    private static void rows() {
        number("row(v, 3)", 0, 5, (x, v) -> x.row(v, 3));
        range("row(0, v)", 0, 40, SIZE, BAD, (x, v) -> x.row(0, v));
        number("lay(v, 0, 1)", 0, 5, (x, v) -> x.lay(v, 0, 1));
        range("lay(1, v, 1)", 0, 8, BEYOND, BEYOND, (x, v) -> x.lay(1, v, 1));
        anyInt("lay(0, 0, v)", (x, v) -> x.lay(0, 0, v));
        number("at(v, 0)", 0, 5, (x, v) -> x.at(v, 0));
        range("at(1, v)", 0, 8, BEYOND, BEYOND, (x, v) -> x.at(1, v));
        number("tear(v)", 0, 5, (x, v) -> x.tear(v));
        number("mean(v)", 0, 5, (x, v) -> x.mean(v));
    }

    private static void copies() {
        number("copy(v, 0, 1, 0, 1)", 0, 5, (x, v) -> x.copy(v, 0, 1, 0, 1));
        number("copy(1, 0, v, 0, 1)", 0, 5, (x, v) -> x.copy(1, 0, v, 0, 1));
        for (int n = 0; n <= 9; n++) {
            int many = n;
            range("copy(1, v, 2, 0, " + n + ")", 0, 9 - n, BEYOND, BEYOND, (x, v) -> x.copy(1, v, 2, 0, many));
            range("copy(1, 0, 2, v, " + n + ")", 0, 9 - n, BEYOND, BEYOND, (x, v) -> x.copy(1, 0, 2, v, many));
            range("copy(1, " + n + ", 2, 0, v)", 0, 9 - n, SIZE, BEYOND, (x, v) -> x.copy(1, many, 2, 0, v));
            range("copy(1, 0, 2, " + n + ", v)", 0, 9 - n, SIZE, BEYOND, (x, v) -> x.copy(1, 0, 2, many, v));
        }
        range("copy(1, 2, 1, 3, v)", 0, 6, SIZE, BEYOND, (x, v) -> x.copy(1, 2, 1, 3, v));
    }

    private static void texts() {
        number("text(v, 3)", 0, 3, (x, v) -> x.text(v, 3));
        range("text(0, v)", 0, 60, SIZE, BAD, (x, v) -> x.text(0, v));
        number("put(v, 0, 1)", 0, 3, (x, v) -> x.put(v, 0, 1));
        range("put(1, v, 1)", 0, 8, BEYOND, BEYOND, (x, v) -> x.put(1, v, 1));
        anyInt("put(0, 0, v)", (x, v) -> x.put(0, 0, v));
        number("fault(v)", 0, 3, (x, v) -> x.fault(v));
    }

    private static void rocks() {
        number("rock(v)", 0, 3, (x, v) -> x.rock(v));
        number("tower(v)", 0, 4, (x, v) -> x.tower(v));
        number("undo(v)", 0, 2, (x, v) -> x.undo(v));
        number("keep(v)", 0, 2, (x, v) -> x.keep(v));
        number("on(v)", 0, 2, (x, v) -> x.on(v));
    }

    private static void houses() {
        place("house(t, s, 3)", (x, t, s) -> x.house(t, s, 3));
        number("house(3, 0, v)", 0, 6, (x, v) -> x.house(3, 0, v));
        place("mark(t, s, the KIND it is)", (x, t, s) -> x.mark(t, s, t < 0 || t > 4 ? 1 : t + 1));
        number("mark(one that is of KIND v, v)", 1, 5, (x, v) -> x.mark(v < 1 || v > 5 ? 0 : v - 1, 0, v));
        place("bear(t, s, 5)", (x, t, s) -> x.bear(t, s, 5));
        number("bear(2, 1, v)", 0, 9, (x, v) -> x.bear(2, 1, v));
    }

    private static void deeds() {
        number("build(v, 0, 9)", 0, 4, (x, v) -> x.build(v, 0, 9));
        number("build(0, v, 9)", 0, 5, (x, v) -> x.build(0, v, 9));
        number("build(0, 0, v)", 0, 9, (x, v) -> x.build(0, 0, v));
        place("leave(t, s)", (x, t, s) -> x.leave(t, s));
    }

    private static void lightAndDebts() {
        place("shades(t, s, 2)", (x, t, s) -> x.shades(t, s, 2));
        number("shades(0, 0, v)", 0, 4, (x, v) -> x.shades(0, 0, v));
        place("sees(t, s)", (x, t, s) -> x.sees(t, s));
        number("owes(v, 8)", 0, 7, (x, v) -> x.owes(v, 8));
        number("owes(8, v)", 0, 7, (x, v) -> x.owes(8, v));
        number("owes(v, 0)", 1, 8, (x, v) -> x.owes(v, 0));
        number("owes(0, v)", 1, 8, (x, v) -> x.owes(0, v));
        number("debt(v)", 0, 8, (x, v) -> x.debt(v));
    }

    private static void asideAndByTurns() {
        number("best(v, 9)", 0, 5, (x, v) -> x.best(v, 9));
        number("best(0, v)", 0, 9, (x, v) -> x.best(0, v));
        number("both(v, 1, 9)", 0, 5, (x, v) -> x.both(v, 1, 9));
        number("both(1, v, 9)", 0, 5, (x, v) -> x.both(1, v, 9));
        number("both(1, 2, v)", 0, 9, (x, v) -> x.both(1, 2, v));
        number("high(v, 9)", 0, 4, (x, v) -> x.high(v, 9));
        number("high(0, v)", 0, 9, (x, v) -> x.high(0, v));
        number("game(v, 2)", 0, 9, (x, v) -> x.game(v, 2));
        number("game(9, v)", 0, 4, (x, v) -> x.game(9, v));
        number("begin(v, 2)", 0, 9, (x, v) -> x.begin(v, 2));
        number("begin(9, v)", 0, 4, (x, v) -> x.begin(9, v));
    }

    private static void seenAndLots() {
        number("fog(v)", 0, 5, (x, v) -> x.fog(v));
        place("kinds(t, s, 1)", (x, t, s) -> x.kinds(t, s, 1));
        number("kinds(0, 0, v)", 0, 5, (x, v) -> x.kinds(0, 0, v));
        place("odds(t, s)", (x, t, s) -> x.odds(t, s));
        number("lots(v, 1)", 1, 12, (x, v) -> x.lots(v, 1));
        number("lots(1, v)", 1, 2147483646, (x, v) -> x.lots(1, v));
    }

    private static void told() {
        number("count(v)", 0, 8, (x, v) -> x.count(v));
        number("findings(v)", 1, 5, (x, v) -> x.findings(v));
    }
}
