/** Promises 1 to 9: a new object, rows, texts. */
public final class RowsTest {
    private static final int MIN = Integer.MIN_VALUE, MAX = Integer.MAX_VALUE;
    private static final Check c = new Check();

    public static void main(String[] args) {
        promise1();
        promise2();
        promise3();
        promise4();
        promise5();
        promise6();
        promise6Order();
        promise7();
        promise8();
        promise9();
        c.end();
    }

    private static void promise1() {
        RoofLent x = new RoofLent();
        for (int what = 0; what <= 8; what++) {
            c.due("new, count(" + what + ")", x.count(what), 0);
        }
        for (int r = 0; r < 6; r++) {
            int row = r;
            c.finding(x, "new, at(r, 0)", () -> x.at(row, 0), Check.NOTHING);
        }
        for (int t = 0; t < 4; t++) {
            int text = t;
            c.finding(x, "new, fault(t)", () -> x.fault(text), Check.NOTHING);
        }
        c.due("new, tower(0)", x.tower(0), Check.BAD);
        c.due("new, asked()", x.asked(), 0);
        c.due("new, upper()", x.upper(), 0);
        c.due("new, lower()", x.lower(), 1);
        c.due("new, finding()", new RoofLent().finding(), 0);
    }

    private static void promise2() {
        RoofLent x = new RoofLent();
        c.due("row(0, 3)", x.row(0, 3), 3);
        c.due("row(5, 40)", x.row(5, 40), 40);
        c.due("row(1, 0)", x.row(1, 0), 0);
        c.due("count(6)", x.count(6), 3);
        c.told(x, "at(5, 39)", x.at(5, 39), 1, 0);
        c.refused(x, "row(0, 41)", () -> x.row(0, 41), Check.BAD);
        c.refused(x, "row(0, MAX)", () -> x.row(0, MAX), Check.BAD);
        c.refused(x, "row(-1, 3)", () -> x.row(-1, 3), Check.BAD);
        c.refused(x, "row(6, 3)", () -> x.row(6, 3), Check.BAD);
        c.refused(x, "row(6, -1)", () -> x.row(6, -1), Check.BAD);
        c.finding(x, "row(0, -1)", () -> x.row(0, -1), Check.SIZE);
        c.finding(x, "row(0, MIN)", () -> x.row(0, MIN), Check.SIZE);
        x.lay(0, 2, 7);
        c.due("row(0, 3) anew", x.row(0, 3), 3);
        c.told(x, "at(0, 2) anew", x.at(0, 2), 1, 0);
        c.due("row(0, 1)", x.row(0, 1), 1);
        c.finding(x, "at(0, 1) of a shorter row", () -> x.at(0, 1), Check.BEYOND);
    }

    private static void promise3() {
        RoofLent x = new RoofLent();
        x.row(2, 3);
        c.told(x, "lay(2, 0, 5)", x.lay(2, 0, 5), 1, 0);
        c.told(x, "lay(2, 0, MIN)", x.lay(2, 0, MIN), 1, 5);
        c.told(x, "lay(2, 0, MAX)", x.lay(2, 0, MAX), 1, MIN);
        c.told(x, "at(2, 0)", x.at(2, 0), 1, MAX);
        c.told(x, "lay(2, 2, 1)", x.lay(2, 2, 1), 1, 0);
        c.finding(x, "lay(2, 3, 1)", () -> x.lay(2, 3, 1), Check.BEYOND);
        c.finding(x, "lay(2, -1, 1)", () -> x.lay(2, -1, 1), Check.BEYOND);
        c.finding(x, "lay(2, MAX, 1)", () -> x.lay(2, MAX, 1), Check.BEYOND);
        c.finding(x, "lay(2, MIN, 1)", () -> x.lay(2, MIN, 1), Check.BEYOND);
        c.finding(x, "lay(3, 0, 1)", () -> x.lay(3, 0, 1), Check.NOTHING);
        c.finding(x, "lay(3, -1, 1)", () -> x.lay(3, -1, 1), Check.NOTHING);
        c.refused(x, "lay(-1, 0, 1)", () -> x.lay(-1, 0, 1), Check.BAD);
        c.refused(x, "lay(6, 0, 1)", () -> x.lay(6, 0, 1), Check.BAD);
    }

    private static void promise4() {
        RoofLent x = new RoofLent();
        Check.fill(x, 1, 4, -5, 6);
        Check.fill(x, 2, 7, 8, 9);
        c.told(x, "at(1, 0)", x.at(1, 0), 1, 4);
        c.told(x, "at(1, 1)", x.at(1, 1), 1, -5);
        c.told(x, "at(1, 2)", x.at(1, 2), 1, 6);
        c.told(x, "at(2, 0)", x.at(2, 0), 1, 7);
        c.finding(x, "at(1, 3)", () -> x.at(1, 3), Check.BEYOND);
        c.finding(x, "at(1, -1)", () -> x.at(1, -1), Check.BEYOND);
        c.finding(x, "at(0, 0)", () -> x.at(0, 0), Check.NOTHING);
        c.refused(x, "at(-1, 0)", () -> x.at(-1, 0), Check.BAD);
        c.refused(x, "at(6, 0)", () -> x.at(6, 0), Check.BAD);
    }

    private static void promise5() {
        RoofLent x = new RoofLent();
        Check.fill(x, 1, 4, 5);
        x.row(0, 0);
        c.due("tear(1)", x.tear(1), 1);
        c.finding(x, "tear(1) again", () -> x.tear(1), Check.NOTHING);
        c.finding(x, "at(1, 0) of a torn row", () -> x.at(1, 0), Check.NOTHING);
        c.due("tear(0), empty", x.tear(0), 1);
        c.due("count(6)", x.count(6), 0);
        c.refused(x, "tear(-1)", () -> x.tear(-1), Check.BAD);
        c.refused(x, "tear(6)", () -> x.tear(6), Check.BAD);
        x.row(1, 2);
        c.told(x, "at(1, 0) made anew", x.at(1, 0), 1, 0);
    }

    private static void holds(RoofLent x, int r, int... want) {
        for (int i = 0; i < want.length; i++) {
            c.told(x, "at(" + r + ", " + i + ")", x.at(r, i), 1, want[i]);
        }
    }

    private static void promise6() {
        RoofLent x = new RoofLent();
        Check.fill(x, 0, 1, 2, 3, 4, 5);
        Check.fill(x, 1, 10, 20, 30);
        x.row(2, 0);
        c.due("copy(1, 0, 0, 2, 3)", x.copy(1, 0, 0, 2, 3), 1);
        holds(x, 0, 1, 2, 10, 20, 30);
        c.due("copy(0, 0, 0, 1, 4)", x.copy(0, 0, 0, 1, 4), 1);
        holds(x, 0, 1, 1, 2, 10, 20);
        c.due("copy(0, 1, 0, 0, 4)", x.copy(0, 1, 0, 0, 4), 1);
        holds(x, 0, 1, 2, 10, 20, 20);
        holds(x, 1, 10, 20, 30);
        c.due("copy(0, 5, 1, 3, 0)", x.copy(0, 5, 1, 3, 0), 1);
        c.due("copy(2, 0, 2, 0, 0)", x.copy(2, 0, 2, 0, 0), 1);
        holds(x, 0, 1, 2, 10, 20, 20);
        c.finding(x, "copy(0, 6, 1, 0, 0)", () -> x.copy(0, 6, 1, 0, 0), Check.BEYOND);
        c.finding(x, "copy(0, 0, 1, 4, 0)", () -> x.copy(0, 0, 1, 4, 0), Check.BEYOND);
        c.finding(x, "copy(0, -1, 1, 0, 0)", () -> x.copy(0, -1, 1, 0, 0), Check.BEYOND);
        c.finding(x, "copy(0, 0, 1, -1, 0)", () -> x.copy(0, 0, 1, -1, 0), Check.BEYOND);
        c.finding(x, "copy(0, 0, 1, 0, 4)", () -> x.copy(0, 0, 1, 0, 4), Check.BEYOND);
        c.finding(x, "copy(1, 1, 0, 0, 3)", () -> x.copy(1, 1, 0, 0, 3), Check.BEYOND);
        c.finding(x, "copy(0, 1, 1, 0, MAX)", () -> x.copy(0, 1, 1, 0, MAX), Check.BEYOND);
        c.finding(x, "copy(0, MAX, 1, MAX, MAX)", () -> x.copy(0, MAX, 1, MAX, MAX), Check.BEYOND);
    }

    private static void promise6Order() {
        RoofLent x = new RoofLent();
        x.row(0, 2);
        c.refused(x, "copy(-1, 0, 0, 0, -1)", () -> x.copy(-1, 0, 0, 0, -1), Check.BAD);
        c.refused(x, "copy(0, 0, 6, 0, -1)", () -> x.copy(0, 0, 6, 0, -1), Check.BAD);
        c.refused(x, "copy(6, 0, 0, 0, 1)", () -> x.copy(6, 0, 0, 0, 1), Check.BAD);
        c.finding(x, "copy(1, 0, 1, 0, -1)", () -> x.copy(1, 0, 1, 0, -1), Check.SIZE);
        c.finding(x, "copy(0, 9, 0, 0, MIN)", () -> x.copy(0, 9, 0, 0, MIN), Check.SIZE);
        c.finding(x, "copy(0, 9, 1, 0, 1)", () -> x.copy(0, 9, 1, 0, 1), Check.NOTHING);
        c.finding(x, "copy(1, 9, 0, 0, 1)", () -> x.copy(1, 9, 0, 0, 1), Check.NOTHING);
    }

    private static void promise7() {
        RoofLent x = new RoofLent();
        Check.fill(x, 0, 1, 2, 4);
        Check.fill(x, 1, -1, -2, -4);
        Check.fill(x, 2, MAX, MAX, MAX);
        Check.fill(x, 3, MIN, MIN, MIN);
        x.row(4, 0);
        c.told(x, "mean(0)", x.mean(0), 1, 2);
        c.told(x, "mean(1)", x.mean(1), 1, -2);
        c.told(x, "mean(2)", x.mean(2), 1, MAX);
        c.told(x, "mean(3)", x.mean(3), 1, MIN);
        c.finding(x, "mean(4)", () -> x.mean(4), Check.NOUGHT);
        c.finding(x, "mean(5)", () -> x.mean(5), Check.NOTHING);
        c.refused(x, "mean(6)", () -> x.mean(6), Check.BAD);
        c.refused(x, "mean(-1)", () -> x.mean(-1), Check.BAD);
        x.row(0, 40);
        for (int i = 0; i < 40; i++) {
            x.lay(0, i, MAX);
        }
        c.told(x, "mean(0) of 40", x.mean(0), 1, MAX);
    }

    private static void promise8() {
        RoofLent x = new RoofLent();
        c.due("text(0, 60)", x.text(0, 60), 60);
        c.due("text(3, 0)", x.text(3, 0), 0);
        c.due("count(7)", x.count(7), 2);
        c.due("put(0, 59, 1)", x.put(0, 59, 1), 1032);
        c.due("put(0, 59, 2)", x.put(0, 59, 2), 1001);
        c.due("text(0, 60) anew", x.text(0, 60), 60);
        c.due("put(0, 59, 2) anew", x.put(0, 59, 2), 1032);
        c.refused(x, "text(0, 61)", () -> x.text(0, 61), Check.BAD);
        c.refused(x, "text(4, 1)", () -> x.text(4, 1), Check.BAD);
        c.refused(x, "text(-1, 1)", () -> x.text(-1, 1), Check.BAD);
        c.refused(x, "text(4, -1)", () -> x.text(4, -1), Check.BAD);
        c.finding(x, "text(0, -1)", () -> x.text(0, -1), Check.SIZE);
        c.finding(x, "text(0, MIN)", () -> x.text(0, MIN), Check.SIZE);
    }

    private static void promise9() {
        RoofLent x = new RoofLent();
        x.text(1, 2);
        c.told(x, "put(1, 0, 127)", x.put(1, 0, 127), 1032, 0);
        c.due("put(1, 0, 128)", x.put(1, 0, 128), 1127);
        c.due("put(1, 0, -129)", x.put(1, 0, -129), 872);
        c.due("put(1, 0, 256)", x.put(1, 0, 256), 1127);
        c.due("put(1, 0, -1)", x.put(1, 0, -1), 1000);
        c.due("put(1, 0, MAX)", x.put(1, 0, MAX), 999);
        c.due("put(1, 0, MIN)", x.put(1, 0, MIN), 999);
        c.due("put(1, 0, 0)", x.put(1, 0, 0), 1000);
        c.due("put(1, 1, 0)", x.put(1, 1, 0), 1032);
        c.finding(x, "put(1, 2, 0)", () -> x.put(1, 2, 0), Check.BEYOND);
        c.finding(x, "put(1, -1, 0)", () -> x.put(1, -1, 0), Check.BEYOND);
        c.finding(x, "put(0, 0, 0)", () -> x.put(0, 0, 0), Check.NOTHING);
        c.refused(x, "put(4, 0, 0)", () -> x.put(4, 0, 0), Check.BAD);
        c.refused(x, "put(-1, 0, 0)", () -> x.put(-1, 0, 0), Check.BAD);
    }
}
