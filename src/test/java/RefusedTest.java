import java.util.function.ToIntFunction;

/**
 * Calls that are to be refused for two reasons: by which. And what is refused changes nothing but finding(), findings():
 * of two objects that are alike one is asked all that is refused, and both go on alike in all that can be told of them.
 */
public final class RefusedTest {
    private static final int MIN = Integer.MIN_VALUE, MAX = Integer.MAX_VALUE;
    private static final int BAD = Check.BAD, FULL = Check.FULL, STATE = Check.STATE;
    private static final int NOTHING = Check.NOTHING, BEYOND = Check.BEYOND, UNLIKE = Check.UNLIKE;
    private static final int NOUGHT = Check.NOUGHT, SIZE = Check.SIZE;
    private static final Check c = new Check();

    public static void main(String[] args) {
        rows(new RoofLent(), rich(), c);
        copies(rich(), c);
        texts(new RoofLent(), rich(), c);
        rocks(new RoofLent(), rich(), c);
        places(rich(), c);
        deeds(rich(), c);
        fullTowers();
        questions(new RoofLent(), rich(), c);
        kinds(rich(), c);
        kindsOfAnotherSize();
        lots(new RoofLent(), rich(), c);
        twins("with 38 DEEDS", RefusedTest::rich);
        twins("without TOWERS", RoofLent::new);
        neverTold();
        c.end();
    }

    /** 38 DEEDS, 10 HOUSES, ROWS 0 (of 2), 1 (of 0), 2 (of 10), TEXTS 0 (a FAULT), 1 (a ROCK), a ROCK kept in 0. */
    private static RoofLent rich() {
        RoofLent x = Check.on("rh9g9h9 ra9e9m9h9h9h9 rl9 r");
        for (int i = 0; i < 18; i++) {
            x.build(2, i % 6, 3);
            x.bear(2, 1, i % 10);
            x.leave(2, 0);
        }
        x.keep(0);
        x.build(0, 0, 4);
        x.leave(0, 3);
        Check.fill(x, 0, 4, -7);
        x.row(1, 0);
        x.row(2, 10);
        Check.write(x, 0, "rh9x");
        Check.write(x, 1, "rh9 r");
        x.odds(1, 0);
        x.light();
        x.tear(5);
        return x;
    }

    private static void rows(RoofLent n, RoofLent x, Check c) {
        c.refusal(x, "row(-1, -1)", () -> x.row(-1, -1), BAD);
        c.refusal(x, "row(6, MIN)", () -> x.row(6, MIN), BAD);
        c.refusal(x, "row(0, -1)", () -> x.row(0, -1), SIZE);
        c.refusal(x, "row(0, 41)", () -> x.row(0, 41), BAD);
        c.refusal(x, "row(3, -1), of one that is missing", () -> x.row(3, -1), SIZE);
        c.refusal(x, "lay(-1, -1, 0)", () -> x.lay(-1, -1, 0), BAD);
        c.refusal(x, "lay(6, 40, 0)", () -> x.lay(6, 40, 0), BAD);
        c.refusal(x, "lay(3, -1, 0)", () -> x.lay(3, -1, 0), NOTHING);
        c.refusal(x, "lay(3, 40, 0)", () -> x.lay(3, 40, 0), NOTHING);
        c.refusal(x, "lay(0, 2, 0)", () -> x.lay(0, 2, 0), BEYOND);
        c.refusal(x, "at(-1, -1)", () -> x.at(-1, -1), BAD);
        c.refusal(x, "at(6, 40)", () -> x.at(6, 40), BAD);
        c.refusal(x, "at(3, -1)", () -> x.at(3, -1), NOTHING);
        c.refusal(x, "at(3, 40)", () -> x.at(3, 40), NOTHING);
        c.refusal(x, "at(0, 2)", () -> x.at(0, 2), BEYOND);
        c.refusal(x, "tear(3)", () -> x.tear(3), NOTHING);
        c.refusal(n, "tear(-1), no ROWS", () -> n.tear(-1), BAD);
        c.refusal(x, "mean(3)", () -> x.mean(3), NOTHING);
        c.refusal(x, "mean(1)", () -> x.mean(1), NOUGHT);
        c.refusal(n, "mean(6), no ROWS", () -> n.mean(6), BAD);
    }

    private static void copies(RoofLent x, Check c) {
        c.refusal(x, "BAD ahead of SIZE, from", () -> x.copy(6, 0, 0, 0, -1), BAD);
        c.refusal(x, "BAD ahead of SIZE, to", () -> x.copy(0, 0, -1, 0, -1), BAD);
        c.refusal(x, "BAD ahead of NOTHING, to one that is missing", () -> x.copy(6, 0, 3, 0, 1), BAD);
        c.refusal(x, "BAD ahead of NOTHING, from one that is missing", () -> x.copy(3, 0, 6, 0, 1), BAD);
        c.refusal(x, "BAD ahead of BEYOND", () -> x.copy(0, 9, 6, 9, 9), BAD);
        c.refusal(x, "SIZE ahead of NOTHING, from", () -> x.copy(3, 0, 0, 0, -1), SIZE);
        c.refusal(x, "SIZE ahead of NOTHING, to", () -> x.copy(0, 0, 3, 0, -1), SIZE);
        c.refusal(x, "SIZE ahead of BEYOND", () -> x.copy(0, 9, 0, -9, MIN), SIZE);
        c.refusal(x, "NOTHING ahead of BEYOND, from", () -> x.copy(3, -1, 0, 9, 9), NOTHING);
        c.refusal(x, "NOTHING ahead of BEYOND, to", () -> x.copy(0, 9, 3, -1, 9), NOTHING);
        c.refusal(x, "NOTHING, from, with n 0", () -> x.copy(3, 0, 0, 0, 0), NOTHING);
        c.refusal(x, "NOTHING, to, with n 0", () -> x.copy(0, 0, 3, 0, 0), NOTHING);
        c.refusal(x, "BEYOND, from", () -> x.copy(0, 0, 2, 0, 3), BEYOND);
        c.refusal(x, "BEYOND, to", () -> x.copy(2, 0, 0, 0, 3), BEYOND);
        c.refusal(x, "BEYOND, from one of no places", () -> x.copy(1, 0, 0, 0, 1), BEYOND);
        c.refusal(x, "BEYOND, to one of no places", () -> x.copy(0, 0, 1, 0, 1), BEYOND);
        c.refusal(x, "BEYOND, with n 0, i below 0", () -> x.copy(1, -1, 1, 0, 0), BEYOND);
        c.refusal(x, "BEYOND, with n 0, i above the size", () -> x.copy(1, 1, 1, 0, 0), BEYOND);
        c.refusal(x, "BEYOND, with n 0, j below 0", () -> x.copy(1, 0, 1, -1, 0), BEYOND);
        c.refusal(x, "BEYOND, with n 0, j above the size", () -> x.copy(1, 0, 1, 1, 0), BEYOND);
    }

    private static void texts(RoofLent n, RoofLent x, Check c) {
        c.refusal(x, "text(-1, -1)", () -> x.text(-1, -1), BAD);
        c.refusal(x, "text(4, MIN)", () -> x.text(4, MIN), BAD);
        c.refusal(x, "text(1, -1)", () -> x.text(1, -1), SIZE);
        c.refusal(x, "text(1, 61)", () -> x.text(1, 61), BAD);
        c.refusal(x, "put(-1, -1, 0)", () -> x.put(-1, -1, 0), BAD);
        c.refusal(x, "put(4, 60, 0)", () -> x.put(4, 60, 0), BAD);
        c.refusal(x, "put(2, -1, 0)", () -> x.put(2, -1, 0), NOTHING);
        c.refusal(x, "put(2, 60, 0)", () -> x.put(2, 60, 0), NOTHING);
        c.refusal(x, "put(1, 5, 0)", () -> x.put(1, 5, 0), BEYOND);
        c.refusal(x, "fault(2)", () -> x.fault(2), NOTHING);
        c.refusal(n, "fault(4), no TEXTS", () -> n.fault(4), BAD);
        c.refusal(x, "rock(2), STATE is behind NOTHING", () -> x.rock(2), NOTHING);
        c.refusal(n, "rock(0), no TEXTS", () -> n.rock(0), NOTHING);
        c.refusal(n, "rock(4), no TEXTS", () -> n.rock(4), BAD);
        c.refusal(x, "rock(0), a FAULT", () -> x.rock(0), STATE);
    }

    private static void rocks(RoofLent n, RoofLent x, Check c) {
        c.refusal(n, "tower(0), no TOWERS", () -> n.tower(0), BAD);
        c.refusal(x, "undo(39) of 38", () -> x.undo(39), BAD);
        c.refusal(x, "undo(-1) of 38", () -> x.undo(-1), BAD);
        c.refusal(n, "keep(-1), no TOWERS", () -> n.keep(-1), BAD);
        c.refusal(n, "keep(3), no TOWERS", () -> n.keep(3), BAD);
        c.refusal(n, "keep(0), no TOWERS", () -> n.keep(0), STATE);
        c.refusal(n, "on(3), none kept", () -> n.on(3), BAD);
        c.refusal(n, "on(0), none kept", () -> n.on(0), NOTHING);
        c.refusal(x, "on(1), none kept there", () -> x.on(1), NOTHING);
        c.refusal(x, "on(2), none kept there", () -> x.on(2), NOTHING);
    }

    /** BAD (of each number) is ahead of BEYOND, and BEYOND ahead of what a call asks for besides. */
    private static void places(RoofLent x, Check c) {
        c.refusal(x, "house(4, 9, 0)", () -> x.house(4, 9, 0), BAD);
        c.refusal(x, "house(0, 9, 7)", () -> x.house(0, 9, 7), BAD);
        c.refusal(x, "house(3, 0, -1)", () -> x.house(3, 0, -1), BAD);
        c.refusal(x, "house(3, 0, 0)", () -> x.house(3, 0, 0), BEYOND);
        c.refusal(x, "mark(4, 9, 1)", () -> x.mark(4, 9, 1), BAD);
        c.refusal(x, "mark(0, 9, 0)", () -> x.mark(0, 9, 0), BAD);
        c.refusal(x, "mark(0, 9, 6)", () -> x.mark(0, 9, 6), BAD);
        c.refusal(x, "mark(0, 0, 0), that it IS", () -> x.mark(0, 0, 0), BAD);
        c.refusal(x, "mark(0, 1, 0), that it IS, too", () -> x.mark(0, 1, 0), BAD);
        c.refusal(x, "mark(0, 0, 6)", () -> x.mark(0, 0, 6), BAD);
        c.refusal(x, "mark(0, 9, 5)", () -> x.mark(0, 9, 5), BEYOND);
        c.refusal(x, "mark(0, 0, 5)", () -> x.mark(0, 0, 5), UNLIKE);
        c.refusal(x, "mark(0, 1, 4), a GLASS one is no EMPTY one", () -> x.mark(0, 1, 4), UNLIKE);
        c.refusal(x, "bear(4, 9, 0)", () -> x.bear(4, 9, 0), BAD);
        c.refusal(x, "bear(0, 9, 10)", () -> x.bear(0, 9, 10), BAD);
        c.refusal(x, "bear(0, 9, -1)", () -> x.bear(0, 9, -1), BAD);
        c.refusal(x, "bear(0, 9, 9)", () -> x.bear(0, 9, 9), BEYOND);
        c.refusal(x, "shades(4, 9, 0)", () -> x.shades(4, 9, 0), BAD);
        c.refusal(x, "shades(0, 9, 5)", () -> x.shades(0, 9, 5), BAD);
        c.refusal(x, "shades(0, 9, 4)", () -> x.shades(0, 9, 4), BEYOND);
        c.refusal(x, "sees(4, 9)", () -> x.sees(4, 9), BAD);
        c.refusal(x, "sees(0, 9)", () -> x.sees(0, 9), BEYOND);
        c.refusal(x, "odds(4, 9)", () -> x.odds(4, 9), BAD);
        c.refusal(x, "odds(0, 9)", () -> x.odds(0, 9), BEYOND);
    }

    private static void deeds(RoofLent x, Check c) {
        c.refusal(x, "leave(4, 9), 38 DEEDS", () -> x.leave(4, 9), BAD);
        c.refusal(x, "leave(0, 9), 38 DEEDS", () -> x.leave(0, 9), BEYOND);
        RoofLent y = rich();
        y.build(3, 0, 9);
        y.leave(3, 0);
        c.refusal(y, "leave(4, 0), 40 DEEDS", () -> y.leave(4, 0), BAD);
        c.refusal(y, "leave(0, -1), 40 DEEDS", () -> y.leave(0, -1), BAD);
        c.refusal(y, "leave(3, 0), 40 DEEDS: FULL last", () -> y.leave(3, 0), BEYOND);
        c.refusal(y, "leave(0, 0), 40 DEEDS", () -> y.leave(0, 0), FULL);
        c.refusal(y, "build(4, 0, 9), 40 DEEDS", () -> y.build(4, 0, 9), BAD);
        c.refusal(y, "build(0, 6, 9), 40 DEEDS", () -> y.build(0, 6, 9), BAD);
        c.refusal(y, "build(0, 0, 10), 40 DEEDS", () -> y.build(0, 0, 10), BAD);
        c.refusal(y, "build(0, 0, 9), 40 DEEDS", () -> y.build(0, 0, 9), FULL);
        c.refusal(y, "undo(41)", () -> y.undo(41), BAD);
        c.due("undo(39) of 40", y.undo(39), 1);
        c.due("leave(0, 0), 39 DEEDS", y.leave(0, 0), 2);
    }

    private static void fullTowers() {
        RoofLent x = Check.on("rh1h1h1h1h1h1 rh1h1h1h1h1 r");
        c.refusal(x, "build(0, 0, 0), 6 there", () -> x.build(0, 0, 0), FULL);
        c.refusal(x, "build(0, -1, 0), 6 there", () -> x.build(0, -1, 0), BAD);
        c.refusal(x, "build(0, 0, -1), 6 there", () -> x.build(0, 0, -1), BAD);
        c.due("build(2, 0, 0), the 12th", x.build(2, 0, 0), 0);
        c.refusal(x, "build(3, 0, 0), 12 in all", () -> x.build(3, 0, 0), BAD);
        c.refusal(x, "build(2, 6, 0), 12 in all", () -> x.build(2, 6, 0), BAD);
        c.refusal(x, "build(2, 0, 10), 12 in all", () -> x.build(2, 0, 10), BAD);
        c.refusal(x, "build(2, 0, 0), 12 in all", () -> x.build(2, 0, 0), FULL);
        c.refusal(x, "build(0, 0, 0), 6 there and 12 in all", () -> x.build(0, 0, 0), FULL);
        c.due("count(2), no DEED but one", x.count(2), 1);
    }

    private static void questions(RoofLent n, RoofLent x, Check c) {
        c.refusal(n, "best(-1, 0), no TOWERS", () -> n.best(-1, 0), BAD);
        c.refusal(n, "best(0, 10), no TOWERS", () -> n.best(0, 10), BAD);
        c.refusal(n, "best(0, 0), no TOWERS", () -> n.best(0, 0), STATE);
        c.refusal(n, "both(6, 0, 0), no TOWERS", () -> n.both(6, 0, 0), BAD);
        c.refusal(n, "both(0, 6, 0), no TOWERS", () -> n.both(0, 6, 0), BAD);
        c.refusal(n, "both(0, 0, -1), no TOWERS", () -> n.both(0, 0, -1), BAD);
        c.refusal(n, "both(0, 0, 0), no TOWERS", () -> n.both(0, 0, 0), STATE);
        c.refusal(n, "high(0, 0), no TOWERS", () -> n.high(0, 0), BAD);
        c.refusal(n, "game(10, 0), no TOWERS", () -> n.game(10, 0), BAD);
        c.refusal(n, "game(0, 5), no TOWERS", () -> n.game(0, 5), BAD);
        c.refusal(n, "game(0, 0), no TOWERS", () -> n.game(0, 0), STATE);
        c.refusal(n, "begin(-1, 0), no TOWERS", () -> n.begin(-1, 0), BAD);
        c.refusal(n, "begin(0, -1), no TOWERS", () -> n.begin(0, -1), BAD);
        c.refusal(n, "begin(0, 4), no TOWERS", () -> n.begin(0, 4), STATE);
        c.refusal(n, "fog(6), no ROWS", () -> n.fog(6), BAD);
        c.refusal(n, "fog(0), no ROWS", () -> n.fog(0), NOTHING);
        c.refusal(x, "fog(3)", () -> x.fog(3), NOTHING);
        c.refusal(x, "fog(0), too few", () -> x.fog(0), SIZE);
        c.refusal(x, "owes(10, 10)", () -> x.owes(10, 10), BAD);
        c.refusal(x, "owes(5, 5)", () -> x.owes(5, 5), BAD);
        c.refusal(x, "debt(10)", () -> x.debt(10), BAD);
        c.refusal(x, "count(9)", () -> x.count(9), BAD);
        c.refusal(x, "findings(0)", () -> x.findings(0), BAD);
    }

    private static void kinds(RoofLent x, Check c) {
        c.refusal(x, "BAD (the TOWER) ahead of BEYOND", () -> x.kinds(4, 9, 0), BAD);
        c.refusal(x, "BAD (the STOREY) ahead of NOTHING", () -> x.kinds(0, -1, 3), BAD);
        c.refusal(x, "BAD (the ROW) ahead of BEYOND", () -> x.kinds(0, 9, 6), BAD);
        c.refusal(x, "BEYOND ahead of NOTHING", () -> x.kinds(0, 9, 3), BEYOND);
        c.refusal(x, "BEYOND ahead of SIZE", () -> x.kinds(0, 9, 0), BEYOND);
        c.refusal(x, "BEYOND alone", () -> x.kinds(0, 9, 2), BEYOND);
        c.refusal(x, "NOTHING", () -> x.kinds(0, 0, 3), NOTHING);
        c.refusal(x, "SIZE, too few", () -> x.kinds(0, 0, 0), SIZE);
        c.refusal(x, "SIZE, none", () -> x.kinds(0, 0, 1), SIZE);
    }

    private static void kindsOfAnotherSize() {
        RoofLent x = rich();
        c.due("kinds() with as many places as HOUSES, refused", x.kinds(0, 0, 2) < 0 ? 1 : 0, 0);
        x.build(3, 0, 0);
        c.refusal(x, "SIZE, one too few", () -> x.kinds(0, 0, 2), SIZE);
        x.undo(38);
        x.leave(0, 0);
        c.refusal(x, "SIZE, one too many", () -> x.kinds(0, 0, 2), SIZE);
    }

    private static void lots(RoofLent n, RoofLent x, Check c) {
        c.refusal(n, "lots(0, 1), no TOWERS", () -> n.lots(0, 1), BAD);
        c.refusal(n, "lots(13, 1), no TOWERS", () -> n.lots(13, 1), BAD);
        c.refusal(n, "lots(1, 0), no TOWERS", () -> n.lots(1, 0), BAD);
        c.refusal(n, "lots(1, MAX), no TOWERS", () -> n.lots(1, MAX), BAD);
        c.refusal(n, "lots(12, 1), no TOWERS", () -> n.lots(12, 1), STATE);
        c.refusal(x, "lots(13, 1), 38 DEEDS", () -> x.lots(13, 1), BAD);
        c.refusal(x, "lots(3, 0), 38 DEEDS", () -> x.lots(3, 0), BAD);
        c.refusal(x, "lots(3, 1), 38 DEEDS", () -> x.lots(3, 1), FULL);
        c.refusal(x, "lots(12, 1), 38 DEEDS", () -> x.lots(12, 1), FULL);
    }

    /** All of the above that is refused, asked of one of two that are alike. */
    private static void twins(String how, java.util.function.Supplier<RoofLent> make) {
        RoofLent x = make.get();
        RoofLent twin = make.get();
        Check unheard = Check.unheard();
        RoofLent n = new RoofLent();
        rows(n, x, unheard);
        copies(x, unheard);
        texts(n, x, unheard);
        rocks(n, x, unheard);
        places(x, unheard);
        questions(n, x, unheard);
        kinds(x, unheard);
        lots(n, x, unheard);
        same(how + ", asked()", x, twin, RoofLent::asked);
        same(how + ", upper()", x, twin, y -> (int) y.upper());
        same(how + ", lower()", x, twin, y -> (int) y.lower());
        goOnAlike(how, x, twin);
    }

    private static void same(String what, RoofLent x, RoofLent twin, ToIntFunction<RoofLent> call) {
        c.due(what, call.applyAsInt(x), call.applyAsInt(twin));
    }

    /** What is kept, and how it was ahead of each DEED, is seen behind on() and undo() alone. */
    private static void goOnAlike(String how, RoofLent x, RoofLent twin) {
        for (int k = -1; k < 3; k++) {
            int place = k;
            if (k >= 0) {
                same(how + ", on(" + k + ")", x, twin, y -> y.on(place));
            }
            for (int n = twin.count(2); n >= 0; n--) {
                int deed = n;
                same(how + ", undo(" + n + ")", x, twin, y -> y.undo(deed));
                c.due(how + ", digest() behind undo(" + n + ")", x.digest(), twin.digest());
            }
        }
    }

    /** Where all was refused nothing was told. */
    private static void neverTold() {
        RoofLent x = new RoofLent();
        ToIntFunction<RoofLent> none = y -> y.lay(0, 0, 1) + y.at(0, 0) + y.mean(0) + y.house(0, 0, 0) + y.sees(0, 0)
            + y.debt(0) + y.ruined() + y.best(0, 0) + y.both(0, 0, 0) + y.relief() + y.fog(0) + y.odds(0, 0);
        c.due("what is refused, or NONE, in all", none.applyAsInt(x), -3 * 4 - 3 - 2 * 9 - 2 * 4 - 1);
        c.due("asked(), nothing told", x.asked(), 0);
        c.due("upper(), nothing told", x.upper(), 0);
        c.due("lower(), nothing told", x.lower(), 1);
        c.due("finding(), told", x.finding(), NOTHING);
        c.due("findings(1), told", x.findings(1), 4);
    }
}
