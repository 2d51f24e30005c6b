import java.util.ArrayList;
import java.util.HashMap;
import java.util.List;
import java.util.Map;
import java.util.TreeSet;
import java.util.regex.Matcher;
import java.util.regex.Pattern;

/**
 * The document once more, in another way: lists of houses that are copied for everything that is tried out, and what is
 * asked is looked for in all there is. It shares nothing with the class that it is compared with.
 */
final class Model {
    private static final int BAD = -1, FULL = -2, STATE = -4, NONE = -9;
    private static final String LETTERS = "hglaem";

    private record House(int kind, int bears) {
        boolean isGlass() {
            return kind == 1 || kind == 4;
        }

        boolean isLeaning() {
            return kind == 2 || kind == 5;
        }

        int weight() {
            return new int[] {2, 1, 1, 4, 1, 1}[kind];
        }

        boolean is(int other) {
            return other == kind || other == 1 && isGlass() || other == 2 && isLeaning() || other == 0;
        }
    }

    /** A house in its place: tower, storey, number. */
    private record Place(int t, int s, int number, House house) { }

    private record Kept(List<List<House>> rock, List<List<List<House>>> ahead) { }

    private final int[][] rows = new int[6][];
    private final byte[][] texts = new byte[4][];
    private final Kept[] kept = new Kept[3];
    private List<List<House>> rock = new ArrayList<>();
    private List<List<List<House>>> ahead = new ArrayList<>();
    private final int[] findings = new int[6];
    private int finding = 0;
    private int asked = 0;
    private int upper = 0;
    private int lower = 1;

    private int found(int f) {
        finding = f;
        findings[f]++;
        return -3;
    }

    private int tell(int told, int answer) {
        asked = told;
        return answer;
    }

    private static boolean in(int v, int least, int most) {
        return least <= v && v <= most;
    }

    // ---- 1

    int row(int r, int n) {
        if (!in(r, 0, 5) || n > 40) {
            return BAD;
        }
        if (n < 0) {
            return found(5);
        }
        rows[r] = new int[n];
        return n;
    }

    int lay(int r, int i, int v) {
        int answer = at(r, i);
        if (answer == 1) {
            rows[r][i] = v;
        }
        return answer;
    }

    int at(int r, int i) {
        return !in(r, 0, 5) ? BAD : rows[r] == null ? found(1) : !in(i, 0, rows[r].length - 1) ? found(2) : tell(rows[r][i], 1);
    }

    int tear(int r) {
        if (!in(r, 0, 5)) {
            return BAD;
        }
        if (rows[r] == null) {
            return found(1);
        }
        rows[r] = null;
        return 1;
    }

    int copy(int r, int i, int to, int j, int n) {
        if (!in(r, 0, 5) || !in(to, 0, 5)) {
            return BAD;
        }
        if (n < 0) {
            return found(5);
        }
        if (rows[r] == null || rows[to] == null) {
            return found(1);
        }
        if (i < 0 || j < 0 || (long) i + n > rows[r].length || (long) j + n > rows[to].length) {
            return found(2);
        }
        int[] was = rows[r].clone();
        for (int k = 0; k < n; k++) {
            rows[to][j + k] = was[i + k];
        }
        return 1;
    }

    int mean(int r) {
        if (!in(r, 0, 5)) {
            return BAD;
        }
        if (rows[r] == null) {
            return found(1);
        }
        if (rows[r].length == 0) {
            return found(4);
        }
        java.math.BigInteger sum = java.math.BigInteger.ZERO;
        for (int v : rows[r]) {
            sum = sum.add(java.math.BigInteger.valueOf(v));
        }
        return tell(sum.divide(java.math.BigInteger.valueOf(rows[r].length)).intValue(), 1);
    }

    int text(int t, int n) {
        if (!in(t, 0, 3) || n > 60) {
            return BAD;
        }
        if (n < 0) {
            return found(5);
        }
        texts[t] = new byte[n];
        java.util.Arrays.fill(texts[t], (byte) ' ');
        return n;
    }

    int put(int t, int i, int v) {
        if (!in(t, 0, 3)) {
            return BAD;
        }
        if (texts[t] == null) {
            return found(1);
        }
        if (!in(i, 0, texts[t].length - 1)) {
            return found(2);
        }
        int was = texts[t][i];
        texts[t][i] = (byte) v;
        return 1000 + was;
    }

    /** The longest beginning of a text that is, or can go on to be, that of a rock ends where the fault is. */
    private int faultOf(String signs) {
        for (int end = 1; end <= signs.length(); end++) {
            if (!begins(signs.substring(0, end))) {
                return end - 1;
            }
        }
        return signs.matches(" *r( *(r|[hglaem][0-9]))* *") ? NONE : signs.length();
    }

    private static boolean begins(String signs) {
        if (!signs.matches(" *(r( *(r|[hglaem][0-9]))* *[hglaem]?)?")) {
            return false;
        }
        int all = signs.replaceAll("[^hglaem]", "").length();
        String[] towers = signs.replaceAll("[^rhglaem]", "").split("r", -1);
        boolean isLow = true;
        for (String each : towers) {
            isLow &= each.length() <= 6;
        }
        return isLow && all <= 12 && towers.length - 1 <= 5;
    }

    private String signsOf(int t) {
        return new String(texts[t], java.nio.charset.StandardCharsets.ISO_8859_1);
    }

    int fault(int t) {
        return !in(t, 0, 3) ? BAD : texts[t] == null ? found(1) : faultOf(signsOf(t));
    }

    int rock(int t) {
        int fault = fault(t);
        if (fault != NONE) {
            return fault < 0 ? fault : STATE;
        }
        rock = new ArrayList<>();
        Matcher items = Pattern.compile("r|[hglaem].").matcher(signsOf(t));
        while (items.find()) {
            String item = items.group();
            if (item.equals("r")) {
                rock.add(new ArrayList<>());
            } else {
                rock.get(rock.size() - 1).add(new House(LETTERS.indexOf(item.charAt(0)), item.charAt(1) - '0'));
            }
        }
        ahead = new ArrayList<>();
        java.util.Arrays.fill(kept, null);
        return rock.size();
    }

    int tower(int t) {
        return in(t, 0, rock.size() - 1) ? rock.get(t).size() : BAD;
    }

    private static List<Place> places(List<List<House>> rock) {
        List<Place> all = new ArrayList<>();
        for (int t = 0; t < rock.size(); t++) {
            for (int s = 0; s < rock.get(t).size(); s++) {
                all.add(new Place(t, s, all.size(), rock.get(t).get(s)));
            }
        }
        return all;
    }

    private static Place placeAt(List<List<House>> rock, int t, int s) {
        for (Place each : places(rock)) {
            if (each.t == t && each.s == s) {
                return each;
            }
        }
        return null;
    }

    private static List<List<House>> copied(List<List<House>> rock) {
        List<List<House>> copy = new ArrayList<>();
        for (List<House> tower : rock) {
            copy.add(new ArrayList<>(tower));
        }
        return copy;
    }

    private boolean isWrong(int t, int s) {
        return !in(t, 0, rock.size() - 1) || s < 0;
    }

    private boolean isBeyond(int t, int s) {
        return s >= rock.get(t).size();
    }

    // ---- what is so on a rock

    private static int weightOn(List<List<House>> rock, Place p) {
        int weight = 0;
        for (Place other : places(rock)) {
            boolean isAbove = other.t == p.t && other.s > p.s;
            boolean hasNext = other.t + 1 < rock.size();
            if (isAbove) {
                weight += other.house.weight();
            }
            if (other.house.isLeaning() && (hasNext ? other.t + 1 == p.t && p.s <= other.s : isAbove)) {
                weight++;
            }
        }
        return weight;
    }

    private static List<Place> swaying(List<List<House>> rock) {
        List<Place> all = places(rock);
        all.removeIf(p -> weightOn(rock, p) <= p.house.bears);
        return all;
    }

    /** Among all houses that are no glass ones the nearest in the direction of the sun. */
    private static Place shader(List<List<House>> rock, Place p, int hour) {
        Place nearest = null;
        int least = 99;
        for (Place other : places(rock)) {
            int east = other.t - p.t;
            int up = other.s - p.s;
            boolean isThere = switch (hour) {
                case 0 -> up == 0 && east < 0;
                case 1 -> up > 0 && east == -up;
                case 2 -> up > 0 && east == 0;
                case 3 -> up > 0 && east == up;
                default -> up == 0 && east > 0;
            };
            int far = Math.max(Math.abs(east), up);
            if (isThere && !other.house.isGlass() && far < least) {
                nearest = other;
                least = far;
            }
        }
        return nearest;
    }

    private static int sees(List<List<House>> rock, Place p) {
        int hours = 0;
        for (int hour = 0; hour < 5; hour++) {
            hours += shader(rock, p, hour) == null ? 1 << hour : 0;
        }
        return hours;
    }

    private static int lamped(List<List<House>> rock, Place p) {
        int lamped = 0;
        for (Place other : places(rock)) {
            lamped += other.t == p.t && other.s > p.s && other.house.kind == 5 ? 1 : 0;
        }
        return lamped;
    }

    private static int lightOf(List<List<House>> rock, Place p, int fog) {
        int light = lamped(rock, p);
        for (int hour = 0; hour < 5; hour++) {
            light += (sees(rock, p) >> hour & 1) == 1 && (fog >> hour & 1) == 0 ? 1 : 0;
        }
        return light > 5 ? 5 : light;
    }

    private static List<Integer> lights(List<List<House>> rock, int fog) {
        List<Integer> all = new ArrayList<>();
        for (Place p : places(rock)) {
            all.add(lightOf(rock, p, fog));
        }
        return all;
    }

    private static int sum(List<Integer> all) {
        return all.stream().mapToInt(Integer::intValue).sum();
    }

    private static int[][] lamps(List<List<House>> rock) {
        List<Place> all = places(rock);
        int[][] lamps = new int[all.size()][all.size()];
        for (Place p : all) {
            for (int hour = 0; hour < 5; hour++) {
                Place who = shader(rock, p, hour);
                if (who != null && p.house.kind != 4) {
                    lamps[who.number][p.number] += p.house.kind == 3 ? 2 : 1;
                }
            }
        }
        return lamps;
    }

    private static int owing(int[][] lamps, int i) {
        int all = 0;
        for (int j = 0; j < lamps.length; j++) {
            all += lamps[i][j];
        }
        return all;
    }

    private static int owed(int[][] lamps, int i) {
        int all = 0;
        for (int j = 0; j < lamps.length; j++) {
            all += lamps[j][i];
        }
        return all;
    }

    private static int allLamps(List<List<House>> rock) {
        int[][] lamps = lamps(rock);
        int all = 0;
        for (int i = 0; i < lamps.length; i++) {
            all += owing(lamps, i);
        }
        return all;
    }

    private int what(int t, int s, int what) {
        Place p = placeAt(rock, t, s);
        return switch (what) {
            case 0 -> p.number;
            case 1 -> p.house.kind;
            case 2 -> p.house.bears;
            case 3 -> weightOn(rock, p);
            case 4 -> lightOf(rock, p, 0);
            case 5 -> owing(lamps(rock), p.number);
            default -> owed(lamps(rock), p.number);
        };
    }

    int house(int t, int s, int what) {
        return isWrong(t, s) || !in(what, 0, 6) ? BAD : isBeyond(t, s) ? found(2) : tell(what(t, s, what), 1);
    }

    int mark(int t, int s, int kind) {
        if (isWrong(t, s) || !in(kind, 1, 5)) {
            return BAD;
        }
        if (isBeyond(t, s)) {
            return found(2);
        }
        Place p = placeAt(rock, t, s);
        if (!p.house.is(kind)) {
            return found(3);
        }
        return switch (kind) {
            case 1 -> taken(p);
            case 2 -> leansOn(p);
            case 3 -> owed(lamps(rock), p.number);
            case 4 -> (int) places(rock).stream().filter(o -> o.t == t && o.s > s).count();
            default -> lightened(p);
        };
    }

    private int taken(Place p) {
        List<List<House>> other = changed(p, new House(0, p.house.bears));
        int taken = 0;
        for (Place o : places(rock)) {
            for (int hour = 0; hour < 5; hour++) {
                Place who = shader(other, o, hour);
                boolean isBy = who != null && who.number == p.number;
                taken += isBy && o.number != p.number && shader(rock, o, hour) == null ? 1 : 0;
            }
        }
        return taken;
    }

    private int leansOn(Place p) {
        int count = 0;
        for (Place o : places(rock)) {
            count += o.t == p.t + 1 && o.s <= p.s ? 1 : 0;
        }
        return count;
    }

    private int lightened(Place p) {
        List<List<House>> dark = changed(p, new House(2, p.house.bears));
        int count = 0;
        for (Place o : places(rock)) {
            boolean isBelow = o.t == p.t && o.s < p.s;
            count += isBelow && lightOf(rock, o, 0) > lightOf(dark, o, 0) ? 1 : 0;
        }
        return count;
    }

    private List<List<House>> changed(Place p, House house) {
        List<List<House>> other = copied(rock);
        other.get(p.t).set(p.s, house);
        return other;
    }

    int bear(int t, int s, int v) {
        if (isWrong(t, s) || !in(v, 0, 9)) {
            return BAD;
        }
        if (isBeyond(t, s)) {
            return found(2);
        }
        Place p = placeAt(rock, t, s);
        rock = changed(p, new House(p.house.kind, v));
        return p.house.bears;
    }

    // ---- 2

    private static List<List<House>> built(List<List<House>> rock, int t, int kind, int v) {
        if (rock.get(t).size() == 6 || places(rock).size() == 12) {
            return null;
        }
        List<List<House>> other = copied(rock);
        other.get(t).add(new House(kind, v));
        return other;
    }

    int build(int t, int kind, int v) {
        if (!in(t, 0, rock.size() - 1) || !in(kind, 0, 5) || !in(v, 0, 9)) {
            return BAD;
        }
        List<List<House>> other = built(rock, t, kind, v);
        if (other == null || ahead.size() == 40) {
            return FULL;
        }
        ahead.add(rock);
        rock = other;
        return rock.get(t).size() - 1;
    }

    int leave(int t, int s) {
        if (isWrong(t, s)) {
            return BAD;
        }
        if (isBeyond(t, s)) {
            return found(2);
        }
        if (ahead.size() == 40) {
            return FULL;
        }
        ahead.add(rock);
        rock = copied(rock);
        rock.get(t).remove(s);
        return rock.get(t).size() - s;
    }

    int undo(int n) {
        int deeds = ahead.size();
        if (!in(n, 0, deeds)) {
            return BAD;
        }
        if (n < deeds) {
            rock = ahead.get(n);
            ahead = new ArrayList<>(ahead.subList(0, n));
        }
        return deeds - n;
    }

    int keep(int k) {
        if (!in(k, 0, 2)) {
            return BAD;
        }
        if (rock.isEmpty()) {
            return STATE;
        }
        kept[k] = new Kept(rock, new ArrayList<>(ahead));
        return ahead.size();
    }

    int on(int k) {
        if (!in(k, 0, 2)) {
            return BAD;
        }
        if (kept[k] == null) {
            return found(1);
        }
        rock = kept[k].rock;
        ahead = new ArrayList<>(kept[k].ahead);
        return ahead.size();
    }

    // ---- 3

    int shades(int t, int s, int hour) {
        if (isWrong(t, s) || !in(hour, 0, 4)) {
            return BAD;
        }
        if (isBeyond(t, s)) {
            return found(2);
        }
        Place who = shader(rock, placeAt(rock, t, s), hour);
        return who == null ? NONE : who.number;
    }

    int sees(int t, int s) {
        if (isWrong(t, s)) {
            return BAD;
        }
        if (isBeyond(t, s)) {
            return found(2);
        }
        Place p = placeAt(rock, t, s);
        return tell(lamped(rock, p), sees(rock, p));
    }

    private boolean isNumber(int i) {
        return in(i, 0, places(rock).size() - 1);
    }

    int owes(int i, int j) {
        return !isNumber(i) || !isNumber(j) || i == j ? BAD : lamps(rock)[i][j];
    }

    int debt(int i) {
        return !isNumber(i) ? BAD : tell(debts().get(i), 1);
    }

    private List<Integer> debts() {
        int[][] lamps = lamps(rock);
        List<Integer> debts = new ArrayList<>();
        for (int i = 0; i < lamps.length; i++) {
            debts.add(owing(lamps, i) - owed(lamps, i));
        }
        return debts;
    }

    int light() {
        return tell(allLamps(rock), sum(lights(rock, 0)));
    }

    int ruined() {
        int[][] lamps = lamps(rock);
        for (int most = 200; most >= 0; most--) {
            for (int i = 0; i < lamps.length; i++) {
                if (owing(lamps, i) == most) {
                    return tell(most, i);
                }
            }
        }
        return NONE;
    }

    int sways() {
        List<Place> all = swaying(rock);
        return tell(all.size(), all.isEmpty() ? NONE : all.get(0).number);
    }

    // ---- 4

    int best(int kind, int v) {
        if (!in(kind, 0, 5) || !in(v, 0, 9)) {
            return BAD;
        }
        if (rock.isEmpty()) {
            return STATE;
        }
        TreeSet<Integer> all = new TreeSet<>();
        for (int t = 0; t < rock.size(); t++) {
            List<List<House>> other = built(rock, t, kind, v);
            if (other != null && swaying(other).isEmpty()) {
                all.add(allLamps(other) * 100 + t);
            }
        }
        return all.isEmpty() ? NONE : tell(all.first() / 100, all.first() % 100);
    }

    int both(int kind, int other, int v) {
        if (!in(kind, 0, 5) || !in(other, 0, 5) || !in(v, 0, 9)) {
            return BAD;
        }
        if (rock.isEmpty()) {
            return STATE;
        }
        TreeSet<Integer> all = new TreeSet<>();
        for (int pair = 0; pair < 50; pair++) {
            if (pair / 10 < rock.size() && pair % 10 < rock.size()) {
                List<List<House>> one = built(rock, pair / 10, kind, v);
                List<List<House>> two = one == null ? null : built(one, pair % 10, other, v);
                if (two != null && swaying(two).isEmpty()) {
                    all.add(allLamps(two) * 100 + pair);
                }
            }
        }
        return all.isEmpty() ? NONE : tell(all.first() / 100, all.first() % 100);
    }

    private static List<List<House>> without(List<List<House>> rock, int gone) {
        List<List<House>> other = copied(rock);
        List<Place> all = places(rock);
        for (int i = all.size() - 1; i >= 0; i--) {
            if ((gone >> i & 1) == 1) {
                other.get(all.get(i).t).remove(all.get(i).s);
            }
        }
        return other;
    }

    int fewest() {
        int houses = places(rock).size();
        for (int size = 0; size <= 3; size++) {
            for (int gone = 0; gone < 1 << houses; gone++) {
                if (Integer.bitCount(gone) == size && swaying(without(rock, gone)).isEmpty()) {
                    return tell(gone, size);
                }
            }
        }
        return NONE;
    }

    int relief() {
        List<Integer> before = lights(rock, 0);
        int who = NONE;
        int most = -1000;
        for (int i = 0; i < before.size(); i++) {
            int others = sum(before) - before.get(i);
            int more = sum(lights(without(rock, 1 << i), 0)) - others;
            if (more > most) {
                most = more;
                who = i;
            }
        }
        return who == NONE ? NONE : tell(most, who);
    }

    int high(int t, int v) {
        if (!in(t, 0, rock.size() - 1) || !in(v, 0, 9)) {
            return BAD;
        }
        int count = 0;
        List<List<House>> other = built(rock, t, 0, v);
        while (other != null && swaying(other).isEmpty()) {
            count++;
            other = built(other, t, 0, v);
        }
        return count;
    }

    // ---- 5

    int settle() {
        List<Integer> debts = debts();
        debts.removeIf(d -> d == 0);
        return debts.size() - mostGroups(debts, (1 << debts.size()) - 1, new HashMap<>());
    }

    /** Of debts that come to 0: the first one's group is each that comes to 0, and the rest is cut on. */
    private static int mostGroups(List<Integer> debts, int set, Map<Integer, Integer> known) {
        if (set == 0) {
            return 0;
        }
        if (known.containsKey(set)) {
            return known.get(set);
        }
        int most = 1;
        int first = Integer.lowestOneBit(set);
        for (int group = set; group > 0; group = group - 1 & set) {
            if ((group & first) != 0 && group != set && sumOf(debts, group) == 0) {
                most = Math.max(most, 1 + mostGroups(debts, set & ~group, known));
            }
        }
        known.put(set, most);
        return most;
    }

    private static int sumOf(List<Integer> debts, int set) {
        int sum = 0;
        for (int i = 0; i < debts.size(); i++) {
            sum += (set >> i & 1) * debts.get(i);
        }
        return sum;
    }

    int rings() {
        int[][] lamps = lamps(rock);
        int pairs = 0;
        int bits = 0;
        for (int i = 0; i < lamps.length; i++) {
            for (int j = 0; j < i; j++) {
                pairs += lamps[i][j] > 0 && lamps[j][i] > 0 ? 1 : 0;
            }
            bits |= reaches(lamps, i, i, new TreeSet<>()) ? 1 << i : 0;
        }
        return tell(pairs, bits);
    }

    private static boolean reaches(int[][] lamps, int from, int to, TreeSet<Integer> been) {
        for (int next = 0; next < lamps.length; next++) {
            if (lamps[from][next] > 0) {
                if (next == to || been.add(next) && reaches(lamps, next, to, been)) {
                    return true;
                }
            }
        }
        return false;
    }

    // ---- 6

    private static boolean wins(List<List<House>> rock, int v, int n) {
        for (int t = 0; t < rock.size(); t++) {
            if (winsBy(rock, t, v, n)) {
                return true;
            }
        }
        return false;
    }

    private static boolean winsBy(List<List<House>> rock, int t, int v, int n) {
        List<List<House>> other = n == 0 ? null : built(rock, t, 0, v);
        return other != null && swaying(other).isEmpty() && !wins(other, v, n - 1);
    }

    int game(int v, int n) {
        return !in(v, 0, 9) || !in(n, 0, 4) ? BAD : rock.isEmpty() ? STATE : wins(rock, v, n) ? 1 : 0;
    }

    int begin(int v, int n) {
        if (!in(v, 0, 9) || !in(n, 0, 4)) {
            return BAD;
        }
        if (rock.isEmpty()) {
            return STATE;
        }
        for (int t = 0; t < rock.size(); t++) {
            if (winsBy(rock, t, v, n)) {
                return t;
            }
        }
        return NONE;
    }

    // ---- 7

    private static List<Integer> listed(int[] row) {
        List<Integer> all = new ArrayList<>();
        for (int v : row) {
            all.add(v);
        }
        return all;
    }

    int fog(int r) {
        if (!in(r, 0, 5)) {
            return BAD;
        }
        if (rows[r] == null) {
            return found(1);
        }
        if (rows[r].length != places(rock).size()) {
            return found(5);
        }
        TreeSet<Integer> sets = new TreeSet<>();
        for (int fog = 0; fog < 32; fog++) {
            if (lights(rock, fog).equals(listed(rows[r]))) {
                sets.add(fog);
            }
        }
        return tell(sets.isEmpty() ? NONE : sets.first(), sets.size());
    }

    int kinds(int t, int s, int r) {
        if (isWrong(t, s) || !in(r, 0, 5)) {
            return BAD;
        }
        if (isBeyond(t, s)) {
            return found(2);
        }
        if (rows[r] == null) {
            return found(1);
        }
        if (rows[r].length != places(rock).size()) {
            return found(5);
        }
        int bits = 0;
        for (int kind = 0; kind < 6; kind++) {
            boolean isSo = lights(changed(placeAt(rock, t, s), new House(kind, 0)), 0).equals(listed(rows[r]));
            bits += isSo ? 1 << kind : 0;
        }
        return bits;
    }

    int odds(int t, int s) {
        if (isWrong(t, s)) {
            return BAD;
        }
        if (isBeyond(t, s)) {
            return found(2);
        }
        upper = Integer.bitCount(sees(rock, placeAt(rock, t, s)));
        lower = 5;
        if (upper % 5 == 0) {
            upper /= 5;
            lower = 1;
        }
        return 1;
    }

    // ---- 8

    int lots(int n, int seed) {
        if (!in(n, 1, 12) || !in(seed, 1, 2147483646)) {
            return BAD;
        }
        if (rock.isEmpty()) {
            return STATE;
        }
        if (ahead.size() + n > 40) {
            return FULL;
        }
        int before = ahead.size();
        java.math.BigInteger lot = java.math.BigInteger.valueOf(seed);
        for (int i = 0; i < n; i++) {
            lot = lot.multiply(java.math.BigInteger.valueOf(48271)).mod(java.math.BigInteger.valueOf(2147483647));
            int v = lot.intValueExact();
            build(v % rock.size(), v / 8 % 6, v / 64 % 10);
        }
        return ahead.size() - before;
    }

    // ---- 9

    int asked() {
        return asked;
    }

    long upper() {
        return upper;
    }

    long lower() {
        return lower;
    }

    int count(int what) {
        List<Place> all = places(rock);
        return switch (what) {
            case 0 -> rock.size();
            case 1 -> all.size();
            case 2 -> ahead.size();
            case 3 -> all.stream().mapToInt(p -> p.s + 1).max().orElse(0);
            case 4 -> (int) all.stream().filter(p -> p.house.isGlass()).count();
            case 5 -> (int) all.stream().filter(p -> p.house.isLeaning()).count();
            case 6 -> there(rows);
            case 7 -> there(texts);
            case 8 -> there(kept);
            default -> BAD;
        };
    }

    private static int there(Object[] all) {
        int count = 0;
        for (Object each : all) {
            count += each == null ? 0 : 1;
        }
        return count;
    }

    int finding() {
        return finding;
    }

    int findings(int f) {
        return in(f, 1, 5) ? findings[f] : BAD;
    }

    long digest() {
        List<Integer> all = new ArrayList<>();
        for (int what = 0; what <= 8; what++) {
            all.add(count(what));
        }
        for (int t = 0; t < rock.size(); t++) {
            all.add(rock.get(t).size());
            for (int s = 0; s < rock.get(t).size(); s++) {
                for (int what = 0; what <= 6; what++) {
                    all.add(what(t, s, what));
                }
            }
        }
        for (Kept each : kept) {
            all.add(each == null ? -1 : each.ahead.size());
        }
        for (int[] each : rows) {
            all.add(each == null ? -1 : each.length);
            all.addAll(listed(each == null ? new int[0] : each));
        }
        for (byte[] each : texts) {
            all.add(each == null ? -1 : each.length);
            for (int i = 0; each != null && i < each.length; i++) {
                all.add((int) each[i]);
            }
        }
        long h = 17;
        for (int v : all) {
            h = 31 * h + v;
        }
        return h;
    }
}
