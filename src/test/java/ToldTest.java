/** Promises 41 to 47: what is told behind the calls, counts, findings, the digest. */
public final class ToldTest {
    private static final int MIN = Integer.MIN_VALUE, MAX = Integer.MAX_VALUE;
    private static final Check c = new Check();

    public static void main(String[] args) {
        promise41();
        promise41Stays();
        promises42And43();
        promise44();
        promises45And46();
        promise47();
        promise47Rows();
        c.end();
    }

    /** A rock on which asked() tells 77. */
    private static RoofLent on(String rock) {
        RoofLent x = Check.on(rock);
        Check.fill(x, 0, 77);
        x.at(0, 0);
        return x;
    }

    private static void promise41() {
        RoofLent x = on("rh2m9 rh9");
        c.due("asked() behind at()", x.asked(), 77);
        c.told(x, "lay()", x.lay(0, 0, 5), 1, 77);
        c.told(x, "mean()", x.mean(0), 1, 5);
        c.told(x, "house()", x.house(0, 1, 2), 1, 9);
        c.told(x, "sees()", x.sees(0, 0), 1 | 2 | 8, 1);
        c.told(x, "debt()", x.debt(0), 1, 1 - 2);
        c.told(x, "light()", x.light(), 4 + 5 + 3, 4);
        c.told(x, "ruined()", x.ruined(), 1, 2);
        c.told(x, "sways()", x.sways(), Check.NONE, 0);
        c.told(x, "best()", x.best(0, 5), 1, 8);
        c.told(x, "both()", x.both(1, 4, 5), 1, 4);
        c.told(x, "fewest()", x.fewest(), 0, 0);
        c.told(x, "relief()", x.relief(), 1, 1);
        c.told(x, "rings()", x.rings(), 1 | 4, 1);
        Check.fill(x, 1, 1, 2, 3);
        c.told(x, "fog()", x.fog(1), 0, Check.NONE);
    }

    private static void promise41Stays() {
        RoofLent x = on("rg9m9 ra9");
        Check.write(x, 0, "rx");
        x.row(1, 3);
        Check.fill(x, 0, 77);
        x.at(0, 0);
        x.row(2, 4);
        x.tear(2);
        x.copy(0, 0, 1, 0, 1);
        x.text(1, 3);
        x.put(1, 0, 5);
        x.fault(0);
        x.rock(0);
        x.tower(0);
        x.mark(0, 0, 1);
        x.bear(0, 0, 8);
        x.build(0, 0, 0);
        x.leave(0, 2);
        x.undo(0);
        x.keep(0);
        x.on(0);
        x.shades(0, 0, 2);
        x.owes(0, 1);
        x.high(0, 9);
        x.settle();
        x.game(9, 2);
        x.begin(9, 2);
        x.kinds(0, 0, 1);
        x.odds(0, 0);
        x.lots(1, 1);
        x.count(1);
        x.finding();
        x.findings(1);
        x.digest();
        c.due("asked() behind calls that tell nothing by it", x.asked(), 77);
        Check.write(x, 0, "r");
        c.told(x, "rock()", x.rock(0), 1, 77);
        c.told(x, "ruined()", x.ruined(), Check.NONE, 77);
        c.told(x, "relief()", x.relief(), Check.NONE, 77);
        c.told(x, "at() beyond", x.at(0, 1), Check.FINDING, 77);
    }

    private static void promises42And43() {
        RoofLent x = new RoofLent();
        c.due("upper() before", x.upper(), 0);
        c.due("lower() before", x.lower(), 1);
        RoofLent y = Check.on("rh9 rh9");
        y.odds(0, 0);
        y.light();
        y.odds(2, 0);
        c.due("upper()", y.upper(), 4);
        c.due("lower()", y.lower(), 5);
        y.leave(1, 0);
        c.due("upper() stays", y.upper(), 4);
        y.odds(0, 0);
        c.due("upper() of all hours", y.upper(), 1);
        c.due("lower() of all hours", y.lower(), 1);
    }

    private static void promise44() {
        RoofLent x = Check.on("rh1g2e3 rl1m2m3a4 r");
        int[] want = {3, 7, 0, 4, 2, 3, 0, 1, 0};
        for (int what = 0; what < want.length; what++) {
            c.told(x, "count(" + what + ")", x.count(what), want[what], 0);
        }
        x.build(2, 1, 0);
        x.row(0, 0);
        x.row(5, 3);
        x.text(0, 3);
        x.keep(1);
        x.keep(2);
        int[] more = {3, 8, 1, 4, 3, 3, 2, 2, 2};
        for (int what = 0; what < more.length; what++) {
            c.due("count(" + what + ")", x.count(what), more[what]);
        }
        c.refused(x, "count(-1)", () -> x.count(-1), Check.BAD);
        c.refused(x, "count(9)", () -> x.count(9), Check.BAD);
        c.refused(x, "count(MIN)", () -> x.count(MIN), Check.BAD);
    }

    private static void promises45And46() {
        RoofLent x = on("rh9");
        x.row(1, 0);
        c.due("finding() before", x.finding(), 0);
        for (int f = 1; f <= 5; f++) {
            c.due("findings() before", x.findings(f), 0);
        }
        c.finding(x, "tear(5)", () -> x.tear(5), 1);
        c.finding(x, "on(0)", () -> x.on(0), 1);
        c.finding(x, "at(0, 5)", () -> x.at(0, 5), 2);
        c.finding(x, "mark(0, 0, 1)", () -> x.mark(0, 0, 1), 3);
        c.finding(x, "mean(1)", () -> x.mean(1), 4);
        c.finding(x, "text(0, -1)", () -> x.text(0, -1), 5);
        x.light();
        x.row(9, 9);
        c.due("finding() stays", x.finding(), 5);
        c.due("findings(1)", x.findings(1), 2);
        c.due("findings(2)", x.findings(2), 1);
        c.due("findings(3)", x.findings(3), 1);
        c.due("findings(4)", x.findings(4), 1);
        c.due("findings(5)", x.findings(5), 1);
        c.refused(x, "findings(0)", () -> x.findings(0), Check.BAD);
        c.refused(x, "findings(6)", () -> x.findings(6), Check.BAD);
        c.refused(x, "findings(-1)", () -> x.findings(-1), Check.BAD);
        c.refused(x, "findings(MAX)", () -> x.findings(MAX), Check.BAD);
        c.due("finding() stays", x.finding(), 5);
    }

    private static long hash(long... values) {
        long h = 17;
        for (long v : values) {
            h = 31 * h + v;
        }
        return h;
    }

    private static void promise47() {
        RoofLent x = new RoofLent();
        c.due("digest() of a new object", x.digest(), hash(0, 0, 0, 0, 0, 0, 0, 0, 0,
            -1, -1, -1, -1, -1, -1, -1, -1, -1, -1, -1, -1, -1));
        RoofLent y = Check.on("rh5 r rg7");
        y.keep(0);
        y.build(1, 3, 4);
        y.keep(2);
        Check.fill(y, 0, 77);
        y.at(0, 0);
        y.tear(0);
        c.due("digest() of a rock", y.digest(), hash(3, 3, 1, 1, 1, 0, 0, 1, 2,
            1, 0, 0, 5, 0, 4, 2, 1,
            1, 1, 3, 4, 0, 4, 2, 2,
            1, 2, 1, 7, 0, 4, 0, 1,
            0, -1, 1, -1, -1, -1, -1, -1, -1, -1, -1, -1, 0));
        c.due("asked() behind digest()", y.asked(), 77);
    }

    private static void promise47Rows() {
        RoofLent x = new RoofLent();
        Check.fill(x, 1, MAX, -2, 3);
        x.row(5, 0);
        x.text(0, 2);
        x.put(0, 1, 200);
        x.text(3, 1);
        c.due("digest() of rows and texts", x.digest(), hash(0, 0, 0, 0, 0, 0, 2, 2, 0,
            -1, -1, -1, -1, 3, MAX, -2, 3, -1, -1, -1, 0, 2, 32, -56, -1, -1, 1, 32));
    }
}
