import java.util.Random;

/** Runs of calls by lots: the class answers each as the model does. The seeds are fixed, so each run is the same. */
public final class ModelTest {
    private static final int RUNS = 800;
    // An object is used for 512 calls at most; what one turn makes of them stays below the rest.
    private static final int LAST_TURN = 512 - 100;
    private static final int[] ODD = {-1, -2, 4, 5, 6, 7, 9, 10, 12, 13, 31, 40, 41, 60, 61, Integer.MAX_VALUE, Integer.MIN_VALUE};
    private static final String LETTERS = "hhglaem";
    private static final Check c = new Check();

    private final Random lot;
    private final RoofLent x = new RoofLent();
    private final Model m = new Model();
    private final int run;
    private int calls = 0;

    private ModelTest(int seed) {
        lot = new Random(seed);
        run = seed;
    }

    public static void main(String[] args) {
        for (int seed = 1; seed <= RUNS; seed++) {
            new ModelTest(seed).all();
        }
        c.end();
    }

    private void all() {
        // In some runs there are DEEDS above all, so that there come to be 40.
        boolean isBusy = run % 4 == 0;
        write(0, someRock());
        same("rock", x.rock(0), m.rock(0));
        while (calls < LAST_TURN) {
            if (lot.nextInt(60) == 0) {
                write(lot.nextInt(4), lot.nextInt(3) == 0 ? someText() : someRock());
                same("rock", x.rock(0), m.rock(0));
            } else if (isBusy) {
                rocks(lot.nextInt(6) == 0 ? 13 + lot.nextInt(4) : 8 + lot.nextInt(5));
            } else if (lot.nextInt(8) == 0) {
                layLight();
            } else if (lot.nextInt(3) == 0) {
                rowsAndTexts(lot.nextInt(11));
            } else if (lot.nextInt(2) == 0) {
                rocks(lot.nextInt(18));
            } else {
                questions(lot.nextInt(19));
            }
            told();
        }
        same("digest", x.digest(), m.digest());
    }

    private void same(String call, long got, long want) {
        calls++;
        c.due("run " + run + ", " + call, got, want);
    }

    private void told() {
        same("asked", x.asked(), m.asked());
        if (lot.nextInt(4) == 0) {
            same("upper", x.upper(), m.upper());
            same("lower", x.lower(), m.lower());
            same("finding", x.finding(), m.finding());
            same("digest", x.digest(), m.digest());
        }
    }

    /** Mostly a number below a bound, at times one that is odd. */
    private int some(int bound) {
        return lot.nextInt(25) == 0 ? ODD[lot.nextInt(ODD.length)] : lot.nextInt(bound);
    }

    /** What a house bears is mostly much, or else everything would sway. */
    private int borne() {
        return lot.nextInt(2) == 0 ? 9 : some(10);
    }

    private int tower() {
        return some(Math.max(1, m.count(0)));
    }

    private int storey(int t) {
        return some(Math.max(1, m.tower(t)));
    }

    private String someRock() {
        StringBuilder signs = new StringBuilder();
        int towers = 1 + lot.nextInt(5);
        int each = 1 + lot.nextInt(5);
        int houses = 0;
        boolean isSparse = lot.nextInt(3) == 0;
        int figure = lot.nextInt(3) == 0 ? 3 : 9;
        for (int t = 0; t < towers; t++) {
            signs.append(isSparse ? " r" : "r");
            int high = lot.nextInt(each + 1);
            for (int s = 0; s < high && houses < 12; s++) {
                signs.append(LETTERS.charAt(lot.nextInt(LETTERS.length())));
                signs.append((char) ('0' + (lot.nextInt(3) == 0 ? lot.nextInt(10) : figure)));
                houses++;
            }
        }
        return signs.toString();
    }

    private String someText() {
        StringBuilder signs = new StringBuilder(someRock());
        int changes = 1 + lot.nextInt(3);
        for (int i = 0; i < changes; i++) {
            int place = lot.nextInt(signs.length() + 1);
            String sign = String.valueOf("rh9 gx0a\t:/".charAt(lot.nextInt(11)));
            signs.insert(place, sign);
        }
        if (lot.nextInt(3) == 0) {
            signs.append("rh9".repeat(lot.nextInt(6))).append("g1".repeat(lot.nextInt(8)));
        }
        return signs.length() > 60 ? signs.substring(0, 60) : signs.toString();
    }

    private void write(int t, String signs) {
        same("text", x.text(t, signs.length()), m.text(t, signs.length()));
        for (int i = 0; i < signs.length(); i++) {
            same("put", x.put(t, i, signs.charAt(i)), m.put(t, i, signs.charAt(i)));
        }
        same("fault of '" + signs + "'", x.fault(t), m.fault(t));
    }

    /** A row of the light there is, or might be with a little fog, or with another kind somewhere. */
    private void layLight() {
        int houses = m.count(1);
        int fog = lot.nextInt(2) == 0 ? 0 : lot.nextInt(32);
        int r = lot.nextInt(6);
        same("row", x.row(r, houses), m.row(r, houses));
        int i = 0;
        for (int t = 0; t < m.count(0); t++) {
            for (int s = 0; s < m.tower(t); s++) {
                int seen = m.sees(t, s);
                int light = Math.min(5, Integer.bitCount(seen & ~fog) + m.asked());
                same("sees", x.sees(t, s), seen);
                light += lot.nextInt(60) == 0 ? 1 : 0;
                same("lay", x.lay(r, i, light), m.lay(r, i, light));
                i++;
            }
        }
        same("fog", x.fog(r), m.fog(r));
        told();
        for (int t = 0; t < m.count(0); t++) {
            for (int s = 0; s < m.tower(t); s++) {
                same("kinds", x.kinds(t, s, r), m.kinds(t, s, r));
            }
        }
    }

    private void rowsAndTexts(int call) {
        int r = some(6);
        int i = some(8);
        int j = some(8);
        int n = some(9);
        int v = lot.nextInt(3) == 0 ? lot.nextInt() : some(300);
        int to = some(6);
        int t = some(4);
        switch (call) {
            case 0 -> same("row", x.row(r, n), m.row(r, n));
            case 1, 2 -> same("lay", x.lay(r, i, v), m.lay(r, i, v));
            case 3 -> same("at", x.at(r, i), m.at(r, i));
            case 4 -> same("tear", x.tear(r), m.tear(r));
            case 5 -> same("copy", x.copy(r, i, to, j, n), m.copy(r, i, to, j, n));
            case 6 -> same("copy", x.copy(r, i, r, j, n), m.copy(r, i, r, j, n));
            case 7 -> same("mean", x.mean(r), m.mean(r));
            case 8 -> same("text", x.text(t, n), m.text(t, n));
            case 9 -> same("put", x.put(t, i, v), m.put(t, i, v));
            default -> same("fault", x.fault(t), m.fault(t));
        }
    }

    private void rocks(int call) {
        int t = tower();
        int s = storey(t);
        int v = borne();
        int kind = some(6);
        int what = some(7);
        int k = some(3);
        int n = m.count(2) - lot.nextInt(3);
        switch (call) {
            case 0 -> same("rock", x.rock(t), m.rock(t));
            case 1 -> same("tower", x.tower(t), m.tower(t));
            case 2 -> same("house", x.house(t, s, what), m.house(t, s, what));
            case 3, 4, 5 -> same("mark", x.mark(t, s, kind), m.mark(t, s, kind));
            case 6, 7 -> same("bear", x.bear(t, s, v), m.bear(t, s, v));
            case 8, 9, 10 -> same("build", x.build(t, kind, v), m.build(t, kind, v));
            case 11, 12 -> same("leave", x.leave(t, s), m.leave(t, s));
            case 13 -> same("undo", x.undo(n), m.undo(n));
            case 14 -> same("keep", x.keep(k), m.keep(k));
            case 15 -> same("on", x.on(k), m.on(k));
            case 16 -> {
                int lots = some(13);
                int seed = lot.nextInt();
                same("lots", x.lots(lots, seed), m.lots(lots, seed));
            }
            default -> same("count", x.count(what + 2), m.count(what + 2));
        }
    }

    private void questions(int call) {
        int t = tower();
        int s = storey(t);
        int v = borne();
        int kind = some(6);
        int other = some(6);
        int hour = some(5);
        int i = some(Math.max(1, m.count(1)));
        int j = some(Math.max(1, m.count(1)));
        int n = some(5);
        int f = some(6);
        switch (call) {
            case 0 -> same("shades", x.shades(t, s, hour), m.shades(t, s, hour));
            case 1 -> same("sees", x.sees(t, s), m.sees(t, s));
            case 2 -> same("owes", x.owes(i, j), m.owes(i, j));
            case 3 -> same("debt", x.debt(i), m.debt(i));
            case 4 -> same("light", x.light(), m.light());
            case 5 -> same("ruined", x.ruined(), m.ruined());
            case 6 -> same("sways", x.sways(), m.sways());
            case 7 -> same("best", x.best(kind, v), m.best(kind, v));
            case 8 -> same("both", x.both(kind, other, v), m.both(kind, other, v));
            case 9 -> same("fewest", x.fewest(), m.fewest());
            case 10 -> same("relief", x.relief(), m.relief());
            case 11 -> same("high", x.high(t, v), m.high(t, v));
            case 12 -> same("settle", x.settle(), m.settle());
            case 13 -> same("rings", x.rings(), m.rings());
            case 14 -> same("game", x.game(v, n), m.game(v, n));
            case 15 -> same("begin", x.begin(v, n), m.begin(v, n));
            case 16 -> same("odds", x.odds(t, s), m.odds(t, s));
            case 17 -> same("findings", x.findings(f), m.findings(f));
            default -> same("count", x.count(hour), m.count(hour));
        }
    }
}
