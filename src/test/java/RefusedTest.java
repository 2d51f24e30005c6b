import java.util.function.Consumer;
import java.util.function.Supplier;
import java.util.function.ToIntFunction;

/**
 * Calls that are to be refused for two reasons: by which. And what is refused changes nothing but finding(), findings():
 * of two objects that are alike one is asked all that is refused, and both go on alike in all that can be told of them.
 */
public final class RefusedTest {
    private static final int MIN = Integer.MIN_VALUE, MAX = Integer.MAX_VALUE;
    private static final int BAD = Check.BAD, FULL = Check.FULL, STATE = Check.STATE;
    private static final int NOTHING = Check.NOTHING, BEYOND = Check.BEYOND, UNLIKE = Check.UNLIKE;
    private static final int NOUGHT = Check.NOUGHT, SIZE = Check.SIZE;
    private static final Check c = new Check();

    /** Who is asked: for each call a new object, or one for all. */
    private interface Asker {
        void refuses(String call, ToIntFunction<RoofLent> run, int want);
    }

    public static void main(String[] args) {
        Asker n = anew(RoofLent::new);
        Asker x = anew(RefusedTest::rich);
        all(n, x);
        fortyDeeds(anew(RefusedTest::forty));
        fullTowers();
        kindsOfAnotherSize();
        twins("with 38 DEEDS", RefusedTest::rich, y -> all((call, run, want) -> { }, oneForAll(y)));
        twins("with 40 DEEDS", RefusedTest::forty, y -> fortyDeeds(oneForAll(y)));
        twins("without TOWERS", RoofLent::new, y -> all(oneForAll(y), oneForAll(y)));
        neverTold();
        c.end();
    }

    private static void all(Asker n, Asker x) {
        rows(n, x);
        copies(x);
        texts(n, x);
        rocks(n, x);
        places(x);
        deeds(x);
        questions(n, x);
        kinds(x);
        lots(n, x);
    }

    private static Asker anew(Supplier<RoofLent> make) {
        return (call, run, want) -> {
            RoofLent x = make.get();
            c.refusal(x, call, () -> run.applyAsInt(x), want);
        };
    }

    private static Asker oneForAll(RoofLent x) {
        return (call, run, want) -> run.applyAsInt(x);
    }

    /** 38 DEEDS, 10 HOUSES, ROWS 0 (of 2), 1 (of 0), 2 (of 10), TEXTS 0 (a FAULT), 1 (a ROCK), a ROCK kept in 0. */
    private static RoofLent rich() {
        RoofLent x = Check.on("rh9g9h9 ra9e9m9h9h9h9 rl9 r");
        for (int i = 0; i < 18; i++) {
            x.build(2, i % 6, 3);
            x.bear(2, 1, i % 10);
            x.leave(2, 0);
        }
        x.keep(0);
        x.build(0, 0, 4);
        x.leave(0, 3);
        Check.fill(x, 0, 4, -7);
        x.row(1, 0);
        x.row(2, 10);
        Check.write(x, 0, "rh9x");
        Check.write(x, 1, "rh9 r");
        x.odds(1, 0);
        x.light();
        x.tear(5);
        return x;
    }

    /** The same with 40 DEEDS. */
    private static RoofLent forty() {
        RoofLent x = rich();
        x.build(3, 0, 9);
        x.leave(3, 0);
        return x;
    }

    private static void rows(Asker n, Asker x) {
        x.refuses("row(-1, -1)", y -> y.row(-1, -1), BAD);
        x.refuses("row(6, MIN)", y -> y.row(6, MIN), BAD);
        x.refuses("row(0, -1)", y -> y.row(0, -1), SIZE);
        x.refuses("row(0, 41)", y -> y.row(0, 41), BAD);
        x.refuses("row(3, -1), of one that is missing", y -> y.row(3, -1), SIZE);
        x.refuses("lay(-1, -1, 0)", y -> y.lay(-1, -1, 0), BAD);
        x.refuses("lay(6, 40, 0)", y -> y.lay(6, 40, 0), BAD);
        x.refuses("lay(3, -1, 0)", y -> y.lay(3, -1, 0), NOTHING);
        x.refuses("lay(3, 40, 0)", y -> y.lay(3, 40, 0), NOTHING);
        x.refuses("lay(0, 2, 0)", y -> y.lay(0, 2, 0), BEYOND);
        x.refuses("at(-1, -1)", y -> y.at(-1, -1), BAD);
        x.refuses("at(6, 40)", y -> y.at(6, 40), BAD);
        x.refuses("at(3, -1)", y -> y.at(3, -1), NOTHING);
        x.refuses("at(3, 40)", y -> y.at(3, 40), NOTHING);
        x.refuses("at(0, 2)", y -> y.at(0, 2), BEYOND);
        x.refuses("tear(3)", y -> y.tear(3), NOTHING);
        n.refuses("tear(-1), no ROWS", y -> y.tear(-1), BAD);
        x.refuses("mean(3)", y -> y.mean(3), NOTHING);
        x.refuses("mean(1)", y -> y.mean(1), NOUGHT);
        n.refuses("mean(6), no ROWS", y -> y.mean(6), BAD);
    }

    private static void copies(Asker x) {
        x.refuses("BAD ahead of SIZE, from", y -> y.copy(6, 0, 0, 0, -1), BAD);
        x.refuses("BAD ahead of SIZE, to", y -> y.copy(0, 0, -1, 0, -1), BAD);
        x.refuses("BAD ahead of NOTHING, to one that is missing", y -> y.copy(6, 0, 3, 0, 1), BAD);
        x.refuses("BAD ahead of NOTHING, from one that is missing", y -> y.copy(3, 0, 6, 0, 1), BAD);
        x.refuses("BAD ahead of BEYOND", y -> y.copy(0, 9, 6, 9, 9), BAD);
        x.refuses("SIZE ahead of NOTHING, from", y -> y.copy(3, 0, 0, 0, -1), SIZE);
        x.refuses("SIZE ahead of NOTHING, to", y -> y.copy(0, 0, 3, 0, -1), SIZE);
        x.refuses("SIZE ahead of BEYOND", y -> y.copy(0, 9, 0, -9, MIN), SIZE);
        x.refuses("NOTHING ahead of BEYOND, from", y -> y.copy(3, -1, 0, 9, 9), NOTHING);
        x.refuses("NOTHING ahead of BEYOND, to", y -> y.copy(0, 9, 3, -1, 9), NOTHING);
        x.refuses("NOTHING, from, with n 0", y -> y.copy(3, 0, 0, 0, 0), NOTHING);
        x.refuses("NOTHING, to, with n 0", y -> y.copy(0, 0, 3, 0, 0), NOTHING);
        x.refuses("BEYOND, from", y -> y.copy(0, 0, 2, 0, 3), BEYOND);
        x.refuses("BEYOND, to", y -> y.copy(2, 0, 0, 0, 3), BEYOND);
        x.refuses("BEYOND, from one of no places", y -> y.copy(1, 0, 0, 0, 1), BEYOND);
        x.refuses("BEYOND, to one of no places", y -> y.copy(0, 0, 1, 0, 1), BEYOND);
        x.refuses("BEYOND, with n 0, i below 0", y -> y.copy(1, -1, 1, 0, 0), BEYOND);
        x.refuses("BEYOND, with n 0, i above the size", y -> y.copy(1, 1, 1, 0, 0), BEYOND);
        x.refuses("BEYOND, with n 0, j below 0", y -> y.copy(1, 0, 1, -1, 0), BEYOND);
        x.refuses("BEYOND, with n 0, j above the size", y -> y.copy(1, 0, 1, 1, 0), BEYOND);
    }

    private static void texts(Asker n, Asker x) {
        x.refuses("text(-1, -1)", y -> y.text(-1, -1), BAD);
        x.refuses("text(4, MIN)", y -> y.text(4, MIN), BAD);
        x.refuses("text(1, -1)", y -> y.text(1, -1), SIZE);
        x.refuses("text(1, 61)", y -> y.text(1, 61), BAD);
        x.refuses("put(-1, -1, 0)", y -> y.put(-1, -1, 0), BAD);
        x.refuses("put(4, 60, 0)", y -> y.put(4, 60, 0), BAD);
        x.refuses("put(2, -1, 0)", y -> y.put(2, -1, 0), NOTHING);
        x.refuses("put(2, 60, 0)", y -> y.put(2, 60, 0), NOTHING);
        x.refuses("put(1, 5, 0)", y -> y.put(1, 5, 0), BEYOND);
        x.refuses("fault(2)", y -> y.fault(2), NOTHING);
        n.refuses("fault(4), no TEXTS", y -> y.fault(4), BAD);
        x.refuses("rock(2), STATE is behind NOTHING", y -> y.rock(2), NOTHING);
        n.refuses("rock(0), no TEXTS", y -> y.rock(0), NOTHING);
        n.refuses("rock(4), no TEXTS", y -> y.rock(4), BAD);
        x.refuses("rock(0), a FAULT", y -> y.rock(0), STATE);
    }

    private static void rocks(Asker n, Asker x) {
        n.refuses("tower(0), no TOWERS", y -> y.tower(0), BAD);
        x.refuses("undo(39) of 38", y -> y.undo(39), BAD);
        x.refuses("undo(-1) of 38", y -> y.undo(-1), BAD);
        n.refuses("keep(-1), no TOWERS", y -> y.keep(-1), BAD);
        n.refuses("keep(3), no TOWERS", y -> y.keep(3), BAD);
        n.refuses("keep(0), no TOWERS", y -> y.keep(0), STATE);
        n.refuses("on(3), none kept", y -> y.on(3), BAD);
        n.refuses("on(0), none kept", y -> y.on(0), NOTHING);
        x.refuses("on(1), none kept there", y -> y.on(1), NOTHING);
        x.refuses("on(2), none kept there", y -> y.on(2), NOTHING);
    }

    /** BAD (of each number) is ahead of BEYOND, and BEYOND ahead of what a call asks for besides. */
    private static void places(Asker x) {
        x.refuses("house(4, 9, 0)", y -> y.house(4, 9, 0), BAD);
        x.refuses("house(0, 9, 7)", y -> y.house(0, 9, 7), BAD);
        x.refuses("house(3, 0, -1)", y -> y.house(3, 0, -1), BAD);
        x.refuses("house(3, 0, 0)", y -> y.house(3, 0, 0), BEYOND);
        x.refuses("mark(4, 9, 1)", y -> y.mark(4, 9, 1), BAD);
        x.refuses("mark(0, 9, 0)", y -> y.mark(0, 9, 0), BAD);
        x.refuses("mark(0, 9, 6)", y -> y.mark(0, 9, 6), BAD);
        x.refuses("mark(0, 0, 0), that it IS", y -> y.mark(0, 0, 0), BAD);
        x.refuses("mark(0, 1, 0), that it IS, too", y -> y.mark(0, 1, 0), BAD);
        x.refuses("mark(0, 0, 6)", y -> y.mark(0, 0, 6), BAD);
        x.refuses("mark(0, 9, 5)", y -> y.mark(0, 9, 5), BEYOND);
        x.refuses("mark(0, 0, 5)", y -> y.mark(0, 0, 5), UNLIKE);
        x.refuses("mark(0, 1, 4), a GLASS one is no EMPTY one", y -> y.mark(0, 1, 4), UNLIKE);
        x.refuses("bear(4, 9, 0)", y -> y.bear(4, 9, 0), BAD);
        x.refuses("bear(0, 9, 10)", y -> y.bear(0, 9, 10), BAD);
        x.refuses("bear(0, 9, -1)", y -> y.bear(0, 9, -1), BAD);
        x.refuses("bear(0, 9, 9)", y -> y.bear(0, 9, 9), BEYOND);
        x.refuses("shades(4, 9, 0)", y -> y.shades(4, 9, 0), BAD);
        x.refuses("shades(0, 9, 5)", y -> y.shades(0, 9, 5), BAD);
        x.refuses("shades(0, 9, 4)", y -> y.shades(0, 9, 4), BEYOND);
        x.refuses("sees(4, 9)", y -> y.sees(4, 9), BAD);
        x.refuses("sees(0, 9)", y -> y.sees(0, 9), BEYOND);
        x.refuses("odds(4, 9)", y -> y.odds(4, 9), BAD);
        x.refuses("odds(0, 9)", y -> y.odds(0, 9), BEYOND);
    }

    private static void deeds(Asker x) {
        x.refuses("leave(4, 9), 38 DEEDS", y -> y.leave(4, 9), BAD);
        x.refuses("leave(0, 9), 38 DEEDS", y -> y.leave(0, 9), BEYOND);
    }

    private static void fortyDeeds(Asker x) {
        x.refuses("leave(4, 0), 40 DEEDS", y -> y.leave(4, 0), BAD);
        x.refuses("leave(0, -1), 40 DEEDS", y -> y.leave(0, -1), BAD);
        x.refuses("leave(3, 0), 40 DEEDS: FULL last", y -> y.leave(3, 0), BEYOND);
        x.refuses("leave(0, 0), 40 DEEDS", y -> y.leave(0, 0), FULL);
        x.refuses("build(4, 0, 9), 40 DEEDS", y -> y.build(4, 0, 9), BAD);
        x.refuses("build(0, 6, 9), 40 DEEDS", y -> y.build(0, 6, 9), BAD);
        x.refuses("build(0, 0, 10), 40 DEEDS", y -> y.build(0, 0, 10), BAD);
        x.refuses("build(0, 0, 9), 40 DEEDS", y -> y.build(0, 0, 9), FULL);
        x.refuses("build(1, 0, 9), 40 DEEDS and 6 there", y -> y.build(1, 0, 9), FULL);
        x.refuses("lots(1, 1), 40 DEEDS", y -> y.lots(1, 1), FULL);
        x.refuses("lots(1, 0), 40 DEEDS", y -> y.lots(1, 0), BAD);
        x.refuses("undo(41)", y -> y.undo(41), BAD);
    }

    private static void fullTowers() {
        RoofLent x = Check.on("rh1h1h1h1h1h1 rh1h1h1h1h1 r");
        c.refusal(x, "build(0, 0, 0), 6 there", () -> x.build(0, 0, 0), FULL);
        c.refusal(x, "build(0, -1, 0), 6 there", () -> x.build(0, -1, 0), BAD);
        c.refusal(x, "build(0, 0, -1), 6 there", () -> x.build(0, 0, -1), BAD);
        c.due("build(2, 0, 0), the 12th", x.build(2, 0, 0), 0);
        c.refusal(x, "build(3, 0, 0), 12 in all", () -> x.build(3, 0, 0), BAD);
        c.refusal(x, "build(2, 6, 0), 12 in all", () -> x.build(2, 6, 0), BAD);
        c.refusal(x, "build(2, 0, 10), 12 in all", () -> x.build(2, 0, 10), BAD);
        c.refusal(x, "build(2, 0, 0), 12 in all", () -> x.build(2, 0, 0), FULL);
        c.refusal(x, "build(0, 0, 0), 6 there and 12 in all", () -> x.build(0, 0, 0), FULL);
        c.due("count(2), no DEED but one", x.count(2), 1);
    }

    private static void questions(Asker n, Asker x) {
        n.refuses("best(-1, 0), no TOWERS", y -> y.best(-1, 0), BAD);
        n.refuses("best(0, 10), no TOWERS", y -> y.best(0, 10), BAD);
        n.refuses("best(0, 0), no TOWERS", y -> y.best(0, 0), STATE);
        n.refuses("both(6, 0, 0), no TOWERS", y -> y.both(6, 0, 0), BAD);
        n.refuses("both(0, 6, 0), no TOWERS", y -> y.both(0, 6, 0), BAD);
        n.refuses("both(0, 0, -1), no TOWERS", y -> y.both(0, 0, -1), BAD);
        n.refuses("both(0, 0, 0), no TOWERS", y -> y.both(0, 0, 0), STATE);
        n.refuses("high(0, 0), no TOWERS", y -> y.high(0, 0), BAD);
        n.refuses("game(10, 0), no TOWERS", y -> y.game(10, 0), BAD);
        n.refuses("game(0, 5), no TOWERS", y -> y.game(0, 5), BAD);
        n.refuses("game(0, 0), no TOWERS", y -> y.game(0, 0), STATE);
        n.refuses("begin(-1, 0), no TOWERS", y -> y.begin(-1, 0), BAD);
        n.refuses("begin(0, -1), no TOWERS", y -> y.begin(0, -1), BAD);
        n.refuses("begin(0, 4), no TOWERS", y -> y.begin(0, 4), STATE);
        n.refuses("fog(6), no ROWS", y -> y.fog(6), BAD);
        n.refuses("fog(0), no ROWS", y -> y.fog(0), NOTHING);
        x.refuses("fog(3)", y -> y.fog(3), NOTHING);
        x.refuses("fog(0), too few", y -> y.fog(0), SIZE);
        x.refuses("owes(10, 10)", y -> y.owes(10, 10), BAD);
        x.refuses("owes(5, 5)", y -> y.owes(5, 5), BAD);
        x.refuses("debt(10)", y -> y.debt(10), BAD);
        x.refuses("count(9)", y -> y.count(9), BAD);
        x.refuses("findings(0)", y -> y.findings(0), BAD);
    }

    private static void kinds(Asker x) {
        x.refuses("BAD (the TOWER) ahead of BEYOND", y -> y.kinds(4, 9, 0), BAD);
        x.refuses("BAD (the STOREY) ahead of NOTHING", y -> y.kinds(0, -1, 3), BAD);
        x.refuses("BAD (the ROW) ahead of BEYOND", y -> y.kinds(0, 9, 6), BAD);
        x.refuses("BEYOND ahead of NOTHING", y -> y.kinds(0, 9, 3), BEYOND);
        x.refuses("BEYOND ahead of SIZE", y -> y.kinds(0, 9, 0), BEYOND);
        x.refuses("BEYOND alone", y -> y.kinds(0, 9, 2), BEYOND);
        x.refuses("NOTHING", y -> y.kinds(0, 0, 3), NOTHING);
        x.refuses("SIZE, too few", y -> y.kinds(0, 0, 0), SIZE);
        x.refuses("SIZE, none", y -> y.kinds(0, 0, 1), SIZE);
    }

    private static void kindsOfAnotherSize() {
        RoofLent x = rich();
        c.due("kinds() with as many places as HOUSES, refused", x.kinds(0, 0, 2) < 0 ? 1 : 0, 0);
        x.build(3, 0, 0);
        c.refusal(x, "SIZE, one too few", () -> x.kinds(0, 0, 2), SIZE);
        x.undo(38);
        x.leave(0, 0);
        c.refusal(x, "SIZE, one too many", () -> x.kinds(0, 0, 2), SIZE);
    }

    private static void lots(Asker n, Asker x) {
        n.refuses("lots(0, 1), no TOWERS", y -> y.lots(0, 1), BAD);
        n.refuses("lots(13, 1), no TOWERS", y -> y.lots(13, 1), BAD);
        n.refuses("lots(1, 0), no TOWERS", y -> y.lots(1, 0), BAD);
        n.refuses("lots(1, MAX), no TOWERS", y -> y.lots(1, MAX), BAD);
        n.refuses("lots(12, 1), no TOWERS", y -> y.lots(12, 1), STATE);
        x.refuses("lots(13, 1), 38 DEEDS", y -> y.lots(13, 1), BAD);
        x.refuses("lots(3, 0), 38 DEEDS", y -> y.lots(3, 0), BAD);
        x.refuses("lots(3, 1), 38 DEEDS", y -> y.lots(3, 1), FULL);
        x.refuses("lots(12, 1), 38 DEEDS", y -> y.lots(12, 1), FULL);
    }

    /** All of the above that is refused, asked of one of two that are alike. */
    private static void twins(String how, Supplier<RoofLent> make, Consumer<RoofLent> refused) {
        RoofLent x = make.get();
        RoofLent twin = make.get();
        refused.accept(x);
        same(how + ", asked()", x, twin, RoofLent::asked);
        same(how + ", upper()", x, twin, y -> (int) y.upper());
        same(how + ", lower()", x, twin, y -> (int) y.lower());
        goOnAlike(how, x, twin);
    }

    private static void same(String what, RoofLent x, RoofLent twin, ToIntFunction<RoofLent> call) {
        c.due(what, call.applyAsInt(x), call.applyAsInt(twin));
    }

    /** What is kept, and how it was ahead of each DEED, is seen behind on() and undo() alone. */
    private static void goOnAlike(String how, RoofLent x, RoofLent twin) {
        for (int k = -1; k < 3; k++) {
            int place = k;
            if (k >= 0) {
                same(how + ", on(" + k + ")", x, twin, y -> y.on(place));
            }
            for (int n = twin.count(2); n >= 0; n--) {
                int deed = n;
                same(how + ", undo(" + n + ")", x, twin, y -> y.undo(deed));
                c.due(how + ", digest() behind undo(" + n + ")", x.digest(), twin.digest());
            }
        }
    }

    /** Where all was refused nothing was told. */
    private static void neverTold() {
        RoofLent x = new RoofLent();
        ToIntFunction<RoofLent> none = y -> y.lay(0, 0, 1) + y.at(0, 0) + y.mean(0) + y.house(0, 0, 0) + y.sees(0, 0)
            + y.debt(0) + y.ruined() + y.best(0, 0) + y.both(0, 0, 0) + y.relief() + y.fog(0) + y.odds(0, 0);
        c.due("what is refused, or NONE, in all", none.applyAsInt(x), -3 * 4 - 3 - 2 * 9 - 2 * 4 - 1);
        c.due("asked(), nothing told", x.asked(), 0);
        c.due("upper(), nothing told", x.upper(), 0);
        c.due("lower(), nothing told", x.lower(), 1);
        c.due("finding(), told", x.finding(), NOTHING);
        c.due("findings(1), told", x.findings(1), 4);
    }
}
