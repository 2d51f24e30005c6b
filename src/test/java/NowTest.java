import java.util.function.Supplier;
import java.util.function.ToLongFunction;

/**
 * What is asked is answered by the ROCK as it is now, whatever it was before and whatever was asked before: the same as on
 * a new object on which the same HOUSES stand. What is only asked, or tried out aside, changes none of them.
 */
public final class NowTest {
    private static final Check c = new Check();

    private record Question(String name, ToLongFunction<RoofLent> call) { }

    private static final Question[] QUESTIONS = {
        new Question("house(0, 0, 0)", x -> x.house(0, 0, 0)), new Question("house(0, 0, 1)", x -> x.house(0, 0, 1)),
        new Question("house(0, 0, 2)", x -> x.house(0, 0, 2)), new Question("house(1, 0, 3)", x -> x.house(1, 0, 3)),
        new Question("house(0, 0, 4)", x -> x.house(0, 0, 4)), new Question("house(0, 0, 5)", x -> x.house(0, 0, 5)),
        new Question("house(1, 0, 6)", x -> x.house(1, 0, 6)), new Question("tower(0)", x -> x.tower(0)),
        new Question("mark(0, 1, 1)", x -> x.mark(0, 1, 1)), new Question("mark(0, 2, 2)", x -> x.mark(0, 2, 2)),
        new Question("mark(1, 0, 3)", x -> x.mark(1, 0, 3)), new Question("mark(1, 1, 4)", x -> x.mark(1, 1, 4)),
        new Question("mark(0, 2, 5)", x -> x.mark(0, 2, 5)), new Question("shades(0, 0, 4)", x -> x.shades(0, 0, 4)),
        new Question("sees(1, 0)", x -> x.sees(1, 0)), new Question("owes(0, 2)", x -> x.owes(0, 2)),
        new Question("debt(0)", x -> x.debt(0)), new Question("debt(3)", x -> x.debt(3)),
        new Question("light()", RoofLent::light), new Question("ruined()", RoofLent::ruined),
        new Question("sways()", RoofLent::sways), new Question("best(0, 9)", x -> x.best(0, 9)),
        new Question("both(0, 3, 9)", x -> x.both(0, 3, 9)), new Question("fewest()", RoofLent::fewest),
        new Question("relief()", RoofLent::relief), new Question("high(1, 9)", x -> x.high(1, 9)),
        new Question("settle()", RoofLent::settle), new Question("rings()", RoofLent::rings),
        new Question("game(3, 4)", x -> x.game(3, 4)), new Question("begin(3, 3)", x -> x.begin(3, 3)),
        new Question("fog(0)", x -> x.fog(0)), new Question("kinds(0, 0, 0)", x -> x.kinds(0, 0, 0)),
        new Question("odds(0, 0)", x -> x.odds(0, 0)), new Question("upper()", x -> x.odds(1, 0) == 1 ? x.upper() : 0),
        new Question("count(3)", x -> x.count(3)), new Question("count(4)", x -> x.count(4)),
        new Question("count(5)", x -> x.count(5))
    };

    public static void main(String[] args) {
        all("a new one", () -> Check.on("rh9g9m9 ra9e9 r"));
        all("build()", () -> built(Check.on("rh9g9 ra9 r")));
        all("leave()", () -> left(Check.on("rh9g9h9m9 ra9a9e9 r")));
        all("bear()", () -> borne(Check.on("rh9g9m9 ra9e9 r")));
        all("lots()", () -> lotted(Check.on("rh9g9 ra9 r")));
        all("undo()", () -> undone(Check.on("rh9g9m9 ra9e9 r")));
        all("on()", () -> gone(Check.on("rh9g9m9 ra9e9 r")));
        all("another rock()", () -> another(Check.on("rh9h9h9 rh9h9 rh9")));
        all("another rock() with fewer TOWERS", () -> another(Check.on("rh9 rh9h9 rh9 rm9 rm9")));
        oneRockAheadOfAnother();
        firstOfAll();
        ghosts();
        c.end();
    }

    private static RoofLent built(RoofLent x) {
        x.build(0, 5, 9);
        x.build(1, 4, 0);
        x.build(2, 0, 1);
        return x;
    }

    private static RoofLent left(RoofLent x) {
        x.leave(0, 2);
        x.leave(1, 0);
        return x;
    }

    private static RoofLent borne(RoofLent x) {
        x.bear(0, 0, 1);
        x.bear(1, 0, 0);
        return x;
    }

    private static RoofLent lotted(RoofLent x) {
        x.lots(4, 5);
        return x;
    }

    private static RoofLent undone(RoofLent x) {
        x.build(2, 3, 0);
        x.build(0, 0, 0);
        x.leave(1, 0);
        x.undo(1);
        return x;
    }

    private static RoofLent gone(RoofLent x) {
        x.leave(1, 1);
        x.keep(1);
        x.leave(0, 1);
        x.build(2, 5, 0);
        x.on(1);
        return x;
    }

    private static RoofLent another(RoofLent x) {
        x.build(0, 0, 0);
        Check.write(x, 3, "rh9g9m9 ra9e9 r");
        x.rock(3);
        return x;
    }

    /** Row 0 holds the LIGHT there is, so that fog() and kinds() have something to tell. */
    private static RoofLent withLight(RoofLent x, int[] light) {
        Check.fill(x, 0, light);
        return x;
    }

    private static int[] lightOf(RoofLent x) {
        int[] light = new int[x.count(1)];
        int number = 0;
        for (int t = 0; t < x.count(0); t++) {
            for (int s = 0; s < x.tower(t); s++) {
                x.house(t, s, 4);
                light[number] = x.asked();
                number++;
            }
        }
        return light;
    }

    private static void all(String how, Supplier<RoofLent> make) {
        String signs = Check.signsOf(make.get());
        int[] light = lightOf(Check.on(signs));
        for (Question each : QUESTIONS) {
            String name = "behind " + how + ", " + each.name;
            RoofLent x = withLight(make.get(), light);
            RoofLent fresh = withLight(Check.on(signs), light);
            long before = withLight(make.get(), light).digest();
            long want = each.call.applyAsLong(fresh);
            c.due(name, each.call.applyAsLong(x), want);
            c.due(name + ", then asked()", x.asked(), fresh.asked());
            c.due(name + " again", each.call.applyAsLong(x), want);
            c.due(name + ", then digest()", x.digest(), before);
            c.due(name + ", then HOUSES as before", Check.signsOf(x).equals(signs) ? 1 : 0, 1);
        }
        afterAll(how, make.get(), signs, light);
    }

    /** All of them one behind the other, forth and back: none is answered by what another one left. */
    private static void afterAll(String how, RoofLent x, String signs, int[] light) {
        RoofLent fresh = withLight(Check.on(signs), light);
        withLight(x, light);
        for (int i = 0; i < QUESTIONS.length; i++) {
            c.due("behind " + how + ", forth, " + QUESTIONS[i].name, QUESTIONS[i].call.applyAsLong(x),
                QUESTIONS[i].call.applyAsLong(fresh));
        }
        for (int i = QUESTIONS.length - 1; i >= 0; i--) {
            RoofLent single = withLight(Check.on(signs), light);
            int asked = single.asked();
            String name = "behind " + how + ", back, " + QUESTIONS[i].name;
            long want = QUESTIONS[i].call.applyAsLong(single);
            c.due(name, QUESTIONS[i].call.applyAsLong(x), want);
            if (single.asked() != asked) {
                c.due(name + ", then asked()", x.asked(), single.asked());
            }
        }
    }

    /** All is asked on one ROCK, and then all on another, which is answered as on a new object. */
    private static void oneRockAheadOfAnother() {
        String[] rocks = {"rrrrr", "rh9 ra9 r ra9 rh9", "ra9 ra9 rh9 rh9", "rh9a9 rg9l9m9 rg9m9", "rh0h0h0h0 rm9",
            "rg9h9 ra9g9l9", "re9m9l9 rl9l9 rm9g9", "rh9h9h9 rh9h9h9", "rh9h9 r r r rh9h9"};
        for (String one : rocks) {
            for (String other : rocks) {
                int[] light = lightOf(Check.on(other));
                RoofLent x = withLight(Check.on(one), lightOf(Check.on(one)));
                RoofLent fresh = withLight(Check.on(other), light);
                for (Question each : QUESTIONS) {
                    each.call.applyAsLong(x);
                }
                Check.write(x, 3, other);
                x.rock(3);
                withLight(x, light);
                for (Question each : QUESTIONS) {
                    c.due("on " + other + " behind " + one + ", " + each.name, each.call.applyAsLong(x),
                        each.call.applyAsLong(fresh));
                }
            }
        }
    }

    private static void first(String name, ToLongFunction<RoofLent> call, long want, int asked) {
        RoofLent x = Check.on("rh9 ra9h9 re9");
        c.told(x, name + " first of all", call.applyAsLong(x), want, asked);
        Check.write(x, 0, "rh9 ra9h9 re9 rh9");
        x.rock(0);
        Check.write(x, 0, "rh9 ra9h9 re9");
        x.rock(0);
        c.told(x, name + " first on another rock", call.applyAsLong(x), want, asked);
    }

    /** Nothing has been asked ahead of it, on this rock or on any: the answers are reckoned by hand. */
    private static void firstOfAll() {
        first("house(1, 0, 4)", x -> x.house(1, 0, 4), 1, 3);
        first("house(1, 0, 5)", x -> x.house(1, 0, 5), 1, 1);
        first("house(1, 0, 6)", x -> x.house(1, 0, 6), 1, 4);
        first("mark(1, 0, 3)", x -> x.mark(1, 0, 3), 4, 0);
        first("mark(2, 0, 1)", x -> x.mark(2, 0, 1), 1, 0);
        first("shades(1, 0, 0)", x -> x.shades(1, 0, 0), 0, 0);
        first("sees(0, 0)", x -> x.sees(0, 0), 1 | 2 | 4, 0);
        first("owes(2, 1)", x -> x.owes(2, 1), 2, 0);
        first("debt(1)", x -> x.debt(1), 1, -3);
        first("debt(2)", x -> x.debt(2), 1, 3);
        first("light()", RoofLent::light, 14, 6);
        first("ruined()", RoofLent::ruined, 2, 3);
        first("sways()", RoofLent::sways, Check.NONE, 0);
        first("best(0, 9)", x -> x.best(0, 9), 1, 7);
        first("fewest()", RoofLent::fewest, 0, 0);
        first("relief()", RoofLent::relief, 2, 3);
        first("settle()", RoofLent::settle, 1, 0);
        first("rings()", RoofLent::rings, 1 | 2, 1);
    }

    /** HOUSES of the ROCK before are not there, nor are they behind what is undone. */
    private static void ghosts() {
        RoofLent x = Check.on("rh9h9h9h9h9h9 rh9h9h9h9h9h9");
        Check.write(x, 0, "r rg1 rr");
        c.due("rock(0)", x.rock(0), 4);
        c.due("count(1)", x.count(1), 1);
        c.due("build(1, 2, 3)", x.build(1, 2, 3), 1);
        c.due("undo(0)", x.undo(0), 1);
        c.due("HOUSES are " + Check.signsOf(x), Check.signsOf(x).equals("r rg1 r r") ? 1 : 0, 1);
        c.due("count(1)", x.count(1), 1);
        x.leave(1, 0);
        x.keep(0);
        c.due("undo(0)", x.undo(0), 1);
        c.due("on(0)", x.on(0), 1);
        c.due("count(1), as kept", x.count(1), 0);
        c.due("undo(0), of the kept", x.undo(0), 1);
        c.due("HOUSES are " + Check.signsOf(x), Check.signsOf(x).equals("r rg1 r r") ? 1 : 0, 1);
    }
}
