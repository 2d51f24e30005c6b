/** Compares answers with those that are due, and ends the test with exit code 1 if one was wrong. */
final class Check {
    static final int BAD = -1, FULL = -2, FINDING = -3, STATE = -4, NONE = -9;
    static final int NOTHING = 1, BEYOND = 2, UNLIKE = 3, NOUGHT = 4, SIZE = 5;
    private static final int FEW = 60;

    private int compared = 0;
    private int wrong = 0;

    void due(String call, long got, long want) {
        compared++;
        if (got != want) {
            wrong++;
            if (wrong <= FEW) {
                System.out.println(call + " answered " + got + ", due is " + want);
            }
        }
    }

    /** An answer, and what asked() told then. */
    void told(RoofLent x, String call, long got, long want, int asked) {
        due(call, got, want);
        due(call + ", then asked()", x.asked(), asked);
    }

    /** A call that is refused, by an answer (below 0) or by a FINDING (above 0). */
    void refusal(RoofLent x, String call, java.util.function.IntSupplier run, int want) {
        if (want > 0) {
            finding(x, call, run, want);
        } else {
            refused(x, call, run, want);
        }
    }

    /** An answer that is a FINDING: it is told by finding(), counted once, and nothing else has changed. */
    void finding(RoofLent x, String call, java.util.function.IntSupplier run, int want) {
        int before = x.findings(want);
        int all = allFindings(x);
        long[] told = told(x);
        due(call, run.getAsInt(), FINDING);
        due(call + ", then finding()", x.finding(), want);
        due(call + ", then findings()", x.findings(want), before + 1);
        due(call + ", then all findings()", allFindings(x), all + 1);
        unchanged(x, call, told);
    }

    /** An answer that is refused without a FINDING: nothing at all has changed. */
    void refused(RoofLent x, String call, java.util.function.IntSupplier run, int want) {
        int finding = x.finding();
        int findings = allFindings(x);
        long[] told = told(x);
        due(call, run.getAsInt(), want);
        due(call + ", then finding()", x.finding(), finding);
        due(call + ", then all findings()", allFindings(x), findings);
        unchanged(x, call, told);
    }

    private static long[] told(RoofLent x) {
        return new long[] {x.asked(), x.upper(), x.lower(), x.digest()};
    }

    private void unchanged(RoofLent x, String call, long[] before) {
        String[] names = {"asked()", "upper()", "lower()", "digest()"};
        long[] now = told(x);
        for (int i = 0; i < names.length; i++) {
            due(call + ", then " + names[i], now[i], before[i]);
        }
    }

    static int allFindings(RoofLent x) {
        int all = 0;
        for (int f = 1; f <= 5; f++) {
            all += x.findings(f);
        }
        return all;
    }

    static void write(RoofLent x, int t, String signs) {
        x.text(t, signs.length());
        for (int i = 0; i < signs.length(); i++) {
            x.put(t, i, signs.charAt(i));
        }
    }

    static RoofLent on(String rock) {
        RoofLent x = new RoofLent();
        write(x, 3, rock);
        x.rock(3);
        x.text(3, 0);
        return x;
    }

    /** The HOUSES as a TEXT would tell them, a blank between two TOWERS. */
    static String signsOf(RoofLent x) {
        StringBuilder signs = new StringBuilder();
        for (int t = 0; t < x.count(0); t++) {
            signs.append(t == 0 ? "r" : " r");
            for (int s = 0; s < x.tower(t); s++) {
                x.house(t, s, 1);
                signs.append("hglaem".charAt(x.asked()));
                x.house(t, s, 2);
                signs.append(x.asked());
            }
        }
        return signs.toString();
    }

    static void fill(RoofLent x, int r, int... places) {
        x.row(r, places.length);
        for (int i = 0; i < places.length; i++) {
            x.lay(r, i, places[i]);
        }
    }

    void end() {
        System.out.println(compared + " answers compared, " + wrong + " not as due");
        if (wrong != 0 || compared == 0) {
            System.exit(1);
        }
    }
}
