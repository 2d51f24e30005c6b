import java.math.BigInteger;

/** What wraps around or must not: what is laid, put and cut to a byte, means, spans, LOTS, digest(). */
public final class WrapTest {
    private static final int MIN = Integer.MIN_VALUE, MAX = Integer.MAX_VALUE;
    private static final int BEYOND = Check.BEYOND, SIZE = Check.SIZE, NONE = Check.NONE;
    private static final BigInteger LONGS = BigInteger.ONE.shiftLeft(64);
    private static final Check c = new Check();

    public static void main(String[] args) {
        laid();
        cutToAByte();
        cutToALetter();
        means();
        meansOfForty();
        spans();
        lots();
        lotsOneByOne();
        digests();
        digestChangesNothing();
        c.end();
    }

    private static void laid() {
        RoofLent x = new RoofLent();
        x.row(0, 2);
        x.row(1, 2);
        int[] all = {MIN, MIN + 1, -1000, -129, -128, -1, 0, 1, 127, 128, 255, 256, 1000, 65536, MAX - 1, MAX};
        int was = 0;
        for (int v : all) {
            c.told(x, "lay(0, 1, " + v + ")", x.lay(0, 1, v), 1, was);
            c.told(x, "at(0, 1) of " + v, x.at(0, 1), 1, v);
            c.told(x, "at(0, 0) beside " + v, x.at(0, 0), 1, 0);
            c.due("copy() of " + v, x.copy(0, 1, 1, 0, 1), 1);
            c.told(x, "at(1, 0) of " + v, x.at(1, 0), 1, v);
            was = v;
        }
    }

    private static void cutToAByte() {
        RoofLent x = new RoofLent();
        x.text(3, 1);
        int[] all = {0, 1, 126, 127, 128, 129, 254, 255, 256, 257, 383, 384, 1000, 65535, 65536, MAX - 1, MAX,
            -1, -2, -127, -128, -129, -130, -255, -256, -257, -384, -385, -65536, MIN, MIN + 1, MIN + 128};
        int was = 32;
        for (int v : all) {
            c.due("put(3, 0, " + v + ")", x.put(3, 0, v), 1000 + was);
            was = Math.floorMod(v + 128L, 256) - 128;
        }
        c.due("put(3, 0, 0) at last", x.put(3, 0, 0), 1000 + was);
    }

    private static void cutToALetter() {
        RoofLent x = new RoofLent();
        x.text(0, 4);
        int[] high = {0, 256, -256, 65536, 1 << 30, MIN};
        for (int more : high) {
            x.put(0, 0, 'r' + more);
            x.put(0, 1, 'm' - more);
            x.put(0, 2, '7' + more);
            x.put(0, 3, ' ' - more);
            c.due("fault of what was cut by " + more, x.fault(0), NONE);
            c.due("rock of what was cut by " + more, x.rock(0), 1);
            c.told(x, "house(0, 0, 2)", x.house(0, 0, 2), 1, 7);
        }
        x.put(0, 1, 'm' + 128);
        c.due("fault of what is 128 more", x.fault(0), 1);
    }

    private static void mean(int want, int... places) {
        RoofLent x = new RoofLent();
        Check.fill(x, 2, places);
        c.told(x, "mean() of " + java.util.Arrays.toString(places), x.mean(2), 1, want);
    }

    private static void means() {
        mean(MAX, MAX);
        mean(MIN, MIN);
        mean(MAX, MAX, MAX);
        mean(MIN, MIN, MIN);
        mean(0, MIN, MAX);
        mean(1 << 30, MAX, 1);
        mean(-(1 << 30), MIN, -1);
        mean(1431655765, MAX, MAX, 2);
        mean(-1431655765, MIN, MIN, 1);
        mean(0, 1, 0);
        mean(0, -1, 0);
        mean(1, 1, 2);
        mean(-1, -1, -2);
        mean(-7, -7);
        mean(2, 3, 3, 2);
        mean(-2, -3, -3, -2);
    }

    private static void meansOfForty() {
        for (int v : new int[] {MIN, -1, 0, 1, MAX}) {
            RoofLent x = new RoofLent();
            x.row(4, 40);
            for (int i = 0; i < 40; i++) {
                x.lay(4, i, v);
            }
            c.told(x, "mean() of 40 times " + v, x.mean(4), 1, v);
            x.lay(4, 39, 0);
            c.told(x, "mean() of 39 times " + v, x.mean(4), 1, (int) (39L * v / 40));
        }
    }

    /** Where i + n or j + n would be below 0 or small again. */
    private static void spans() {
        RoofLent x = new RoofLent();
        Check.fill(x, 0, 1, 2, 3);
        Check.fill(x, 1, 4, 5, 6);
        int[][] beyond = {{MAX, 0, MAX}, {MAX, 0, 1}, {1, 0, MAX}, {2, 0, MAX - 1}, {0, MAX, MAX}, {0, MAX, 1}, {0, 1, MAX},
            {MIN, 0, 3}, {0, MIN, 3}, {MIN, MIN, 0}, {MAX, MAX, 0}, {MIN, 0, MAX}, {-1, 0, 1}, {0, -1, 1}, {-3, 0, 3}, {4, 0, 0}};
        for (int[] each : beyond) {
            String call = "copy(0, " + each[0] + ", 1, " + each[1] + ", " + each[2] + ")";
            c.refusal(x, call, () -> x.copy(0, each[0], 1, each[1], each[2]), BEYOND);
        }
        c.refusal(x, "copy(0, 0, 1, 0, MIN)", () -> x.copy(0, 0, 1, 0, MIN), SIZE);
        c.refusal(x, "copy(0, MIN, 1, MIN, MIN)", () -> x.copy(0, MIN, 1, MIN, MIN), SIZE);
        c.refusal(x, "copy(0, 3, 1, 3, -1)", () -> x.copy(0, 3, 1, 3, -1), SIZE);
    }

    private static void lotted(String start, int n, int seed, int want, String behind) {
        RoofLent x = Check.on(start);
        String call = "lots(" + n + ", " + seed + ") on " + start;
        c.due(call, x.lots(n, seed), want);
        c.due(call + ", as many DEEDS", x.count(2), want);
        c.due(call + " is " + Check.signsOf(x), Check.signsOf(x).equals(behind) ? 1 : 0, 1);
    }

    /** What is due was reckoned by another language's whole numbers, which never wrap around. */
    private static void lots() {
        lotted("rrrrr", 12, 1, 11, "rm5 ra4h5h3l1e7m7 rg9m5 re2 rl5");
        lotted("r", 12, 1, 6, "ra4l5h5g9h3e2");
        lotted("rr", 12, 2147483646, 8, "rh7l2a8m9g0e6 rg6a6");
        lotted("rrr", 12, 1234567, 12, "re5l6e0e8e4 rh6l3g8h9 rm2e8a5");
        lotted("rrrr", 12, 2147483646, 12, "rh7m9m4e4g7e6 rg6a6 rl2a8g0e6 r");
        lotted("rrrrr", 12, 1073741824, 12, "re2 rg8 re7m0e8 rh2 rh3m7a6e9g4h8");
        lotted("rrrr", 7, 44488, 7, "rm8e4 r rl9g2m3a1h3 r");
        lotted("rrrrr", 12, 2, 12, "ra8l5h0e0g3 rl5 rg8m7l4e9g9 re1 r");
        lotted("rrr", 1, 2147483646, 1, "rh7 r r");
        lotted("rr", 12, 399268537, 10, "ra3m0e4l9 rl3g4a7e8m0a4");
    }

    /** A number comes from the one ahead, whether it was passed over or not: as by BigIntegers, one by one. */
    private static void lotsOneByOne() {
        for (int seed : new int[] {1, 2, 3, 48271, 65536, 1 << 30, MAX - 48271, MAX - 2, MAX - 1}) {
            for (int n = 1; n <= 12; n++) {
                RoofLent x = Check.on("r r r r r");
                RoofLent all = Check.on("r r r r r");
                BigInteger lot = BigInteger.valueOf(seed);
                for (int i = 0; i < n; i++) {
                    lot = lot.multiply(BigInteger.valueOf(48271)).mod(BigInteger.valueOf(2147483647));
                    int v = lot.intValueExact();
                    x.build(v % 5, v / 8 % 6, v / 64 % 10);
                }
                c.due("lots(" + n + ", " + seed + ")", all.lots(n, seed), x.count(1));
                c.due("lots(" + n + ", " + seed + "), then digest()", all.digest(), x.digest());
            }
        }
    }

    private static BigInteger and(BigInteger h, long v) {
        return h.multiply(BigInteger.valueOf(31)).add(BigInteger.valueOf(v));
    }

    /** digest() by whole numbers that never wrap around, cut to a long at last. */
    private static long digestOf(RoofLent x, int[] kept, String[] texts) {
        BigInteger h = BigInteger.valueOf(17);
        for (int what = 0; what <= 8; what++) {
            h = and(h, x.count(what));
        }
        for (int t = 0; t < x.count(0); t++) {
            h = and(h, x.tower(t));
            for (int place = 0; place < 7 * x.tower(t); place++) {
                x.house(t, place / 7, place % 7);
                h = and(h, x.asked());
            }
        }
        for (int deeds : kept) {
            h = and(h, deeds);
        }
        for (int r = 0; r < 6; r++) {
            int size = 0;
            while (x.at(r, size) == 1) {
                size++;
            }
            boolean isMissing = x.finding() == Check.NOTHING;
            h = and(h, isMissing ? -1 : size);
            for (int i = 0; i < size; i++) {
                x.at(r, i);
                h = and(h, x.asked());
            }
        }
        for (String text : texts) {
            h = and(h, text == null ? -1 : text.length());
            for (int i = 0; text != null && i < text.length(); i++) {
                h = and(h, (byte) text.charAt(i));
            }
        }
        return h.mod(LONGS).longValue();
    }

    private static void digests() {
        c.due("digest() of a new object", new RoofLent().digest(), digestOf(new RoofLent(), new int[] {-1, -1, -1}, new String[4]));
        String[] rocks = {"rrrrr", "rh9", "rh1h2h3 rg4e5 rl6m7 ra8a9 rm0m0m0", "rh9h9h9h9h9h9rm9m9m9m9m9m9"};
        for (int i = 0; i < rocks.length; i++) {
            digested(rocks[i], i);
        }
    }

    private static void digested(String rock, int i) {
        RoofLent x = new RoofLent();
        String[] texts = new String[4];
        int[] kept = {-1, -1, -1};
        Check.write(x, i, rock);
        texts[i] = rock;
        x.rock(i);
        x.build(0, 3, 5);
        kept[i % 3] = x.keep(i % 3);
        x.lots(6, i + 1);
        kept[(i + 1) % 3] = x.keep((i + 1) % 3);
        x.row(i, 13 * i);
        for (int place = 0; place < 13 * i; place++) {
            x.lay(i, place, (place % 3 - 1) * (MAX - place));
        }
        x.row(i + 1, 1);
        x.lay(i + 1, 0, MIN);
        x.row(i + 2, 0);
        texts[(i + 1) % 4] = "" + (char) 255 + (char) 128 + (char) 127 + (char) 0;
        Check.write(x, (i + 1) % 4, texts[(i + 1) % 4]);
        c.due("digest() of " + rock, x.digest(), digestOf(x, kept, texts));
    }

    private static void digestChangesNothing() {
        RoofLent x = Check.on("rh9h9 ra9");
        x.odds(0, 0);
        x.tear(0);
        x.light();
        long first = x.digest();
        c.due("digest() again", x.digest(), first);
        c.due("asked() behind digest()", x.asked(), 6);
        c.due("upper() behind digest()", x.upper(), 3);
        c.due("lower() behind digest()", x.lower(), 5);
        c.due("finding() behind digest()", x.finding(), Check.NOTHING);
        c.due("all findings() behind digest()", Check.allFindings(x), 1);
    }
}
