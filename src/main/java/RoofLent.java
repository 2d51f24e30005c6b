/** The rock on which roofs are lent upward. What each call answers is told in DOC.md, promise by promise. */
public final class RoofLent {
    public static final int BAD = -1, FULL = -2, FINDING = -3, STATE = -4, SPENT = -6, NONE = -9;

    private static final int NOTHING = 1, BEYOND = 2, UNLIKE = 3, NOUGHT = 4, SIZE = 5;
    private static final int LAST_FINDING = 5;
    private static final int MISSING = -1;

    private static final int ROWS = 6, MOST_PLACES = 40;
    private static final int TEXTS = 4, MOST_BYTES = 60;
    private static final int BLANK = 32, TOWER_LETTER = 114, FIGURE_NOUGHT = 48;
    private static final int PUT_MORE = 1000;

    private static final int HOUSE = 0, GLASS = 1, LEANING = 2, GARDEN = 3, EMPTY = 4, LAMPED = 5;
    private static final int KINDS = 6, NO_KIND = -1;
    private static final int[] LETTERS = {104, 103, 108, 97, 101, 109};
    private static final int[] WEIGHTS = {2, 1, 1, 4, 1, 1};
    private static final int MOST_BORNE = 9;

    private static final int MOST_TOWERS = 5, MOST_STOREYS = 6, MOST_HOUSES = 12;
    private static final int CELLS = MOST_TOWERS * MOST_STOREYS;
    private static final int NO_HOUSE = 0;

    private static final int HOURS = 5, ALL_HOURS = 31, MOST_LIGHT = 5;
    private static final int[] EASTWARD = {-1, -1, 0, 1, 1};
    private static final int[] UPWARD = {0, 1, 1, 1, 0};

    private static final int MOST_DEEDS = 40;
    private static final int KEPT_ROCKS = 3;
    private static final int LAST_TOLD = 6, LAST_COUNTED = 8;
    private static final int MOST_LEAVING = 3;
    private static final int MOST_TURNS = 4;
    private static final int MOST_LOTS = 12, LOT_FACTOR = 48271, LOT_MODULUS = 2147483647;

    private final Shelf rows = new Shelf(ROWS, MOST_PLACES, 0);
    private final Shelf texts = new Shelf(TEXTS, MOST_BYTES, BLANK);
    private final Story now = new Story(0);
    private final Story[] kept = new Story[KEPT_ROCKS];
    // What is only tried out is tried out here, so that the rock itself never changes.
    private final Rock aside = new Rock();
    private final Ledger ledger = new Ledger();
    private final Settling settling = new Settling();
    private final int[] findingCounts = new int[LAST_FINDING + 1];
    private int latestFinding;
    private int latestAsked;
    private long latestUpper;
    private long latestLower = 1;

    public RoofLent() {
        for (int k = 0; k < kept.length; k++) {
            kept[k] = new Story(MISSING);
        }
    }

    // ---- 1 rows, texts, rocks

    public int row(int r, int n) {
        if (!rows.knows(r) || n > MOST_PLACES) {
            return BAD;
        }
        if (n < 0) {
            return found(SIZE);
        }
        rows.make(r, n);
        return n;
    }

    public int lay(int r, int i, int v) {
        if (!rows.knows(r)) {
            return BAD;
        }
        if (!rows.isThere(r)) {
            return found(NOTHING);
        }
        if (!rows.has(r, i)) {
            return found(BEYOND);
        }
        latestAsked = rows.get(r, i);
        rows.set(r, i, v);
        return 1;
    }

    public int at(int r, int i) {
        if (!rows.knows(r)) {
            return BAD;
        }
        if (!rows.isThere(r)) {
            return found(NOTHING);
        }
        if (!rows.has(r, i)) {
            return found(BEYOND);
        }
        latestAsked = rows.get(r, i);
        return 1;
    }

    public int tear(int r) {
        if (!rows.knows(r)) {
            return BAD;
        }
        if (!rows.isThere(r)) {
            return found(NOTHING);
        }
        rows.drop(r);
        return 1;
    }

    public int copy(int r, int i, int to, int j, int n) {
        if (!rows.knows(r) || !rows.knows(to)) {
            return BAD;
        }
        if (n < 0) {
            return found(SIZE);
        }
        if (!rows.isThere(r) || !rows.isThere(to)) {
            return found(NOTHING);
        }
        if (!rows.hasSpan(r, i, n) || !rows.hasSpan(to, j, n)) {
            return found(BEYOND);
        }
        rows.move(r, i, to, j, n);
        return 1;
    }

    public int mean(int r) {
        if (!rows.knows(r)) {
            return BAD;
        }
        if (!rows.isThere(r)) {
            return found(NOTHING);
        }
        int size = rows.sizeOf(r);
        if (size == 0) {
            return found(NOUGHT);
        }
        // The sum of 40 ints may be beyond an int; the mean never is.
        latestAsked = (int) (rows.sumOf(r) / size);
        return 1;
    }

    public int text(int t, int n) {
        if (!texts.knows(t) || n > MOST_BYTES) {
            return BAD;
        }
        if (n < 0) {
            return found(SIZE);
        }
        texts.make(t, n);
        return n;
    }

    public int put(int t, int i, int v) {
        if (!texts.knows(t)) {
            return BAD;
        }
        if (!texts.isThere(t)) {
            return found(NOTHING);
        }
        if (!texts.has(t, i)) {
            return found(BEYOND);
        }
        int was = texts.get(t, i);
        texts.set(t, i, (byte) v);
        return was + PUT_MORE;
    }

    public int fault(int t) {
        if (!texts.knows(t)) {
            return BAD;
        }
        if (!texts.isThere(t)) {
            return found(NOTHING);
        }
        return readAside(t);
    }

    public int rock(int t) {
        if (!texts.knows(t)) {
            return BAD;
        }
        if (!texts.isThere(t)) {
            return found(NOTHING);
        }
        if (readAside(t) != NONE) {
            return STATE;
        }
        now.startWith(aside);
        forgetKept();
        return aside.towerCount();
    }

    public int tower(int t) {
        return now.rock.isTower(t) ? now.rock.heightOf(t) : BAD;
    }

    public int house(int t, int s, int what) {
        if (isNoPlace(t, s) || what < 0 || what > LAST_TOLD) {
            return BAD;
        }
        if (!now.rock.has(t, s)) {
            return found(BEYOND);
        }
        ledger.reckon(now.rock);
        latestAsked = toldOf(t, s, what);
        return 1;
    }

    public int mark(int t, int s, int kind) {
        if (isNoPlace(t, s) || !isKind(kind) || kind == HOUSE) {
            return BAD;
        }
        if (!now.rock.has(t, s)) {
            return found(BEYOND);
        }
        if (!isOf(now.rock.kindAt(t, s), kind)) {
            return found(UNLIKE);
        }
        return markOf(t, s, kind);
    }

    public int bear(int t, int s, int v) {
        if (isNoPlace(t, s) || !isBorne(v)) {
            return BAD;
        }
        if (!now.rock.has(t, s)) {
            return found(BEYOND);
        }
        int was = now.rock.borneAt(t, s);
        now.rock.change(t, s, now.rock.kindAt(t, s), v);
        return was;
    }

    // ---- 2 deeds

    public int build(int t, int kind, int v) {
        if (!now.rock.isTower(t) || !isKind(kind) || !isBorne(v)) {
            return BAD;
        }
        if (!now.rock.hasRoom(t) || !now.hasRoomFor(1)) {
            return FULL;
        }
        now.noteDeed();
        now.rock.push(t, kind, v);
        return now.rock.heightOf(t) - 1;
    }

    public int leave(int t, int s) {
        if (isNoPlace(t, s)) {
            return BAD;
        }
        if (!now.rock.has(t, s)) {
            return found(BEYOND);
        }
        if (!now.hasRoomFor(1)) {
            return FULL;
        }
        now.noteDeed();
        now.rock.remove(t, s);
        return now.rock.heightOf(t) - s;
    }

    public int undo(int n) {
        if (n < 0 || n > now.deeds) {
            return BAD;
        }
        int undone = now.deeds - n;
        now.goBackTo(n);
        return undone;
    }

    public int keep(int k) {
        Story story = keptAt(k);
        if (story == null) {
            return BAD;
        }
        if (now.rock.towerCount() == 0) {
            return STATE;
        }
        story.takeFrom(now);
        return now.deeds;
    }

    public int on(int k) {
        Story story = keptAt(k);
        if (story == null) {
            return BAD;
        }
        if (!story.isThere()) {
            return found(NOTHING);
        }
        now.takeFrom(story);
        return now.deeds;
    }

    // ---- 3 light, debts

    public int shades(int t, int s, int hour) {
        if (isNoPlace(t, s) || hour < 0 || hour >= HOURS) {
            return BAD;
        }
        if (!now.rock.has(t, s)) {
            return found(BEYOND);
        }
        return now.rock.shaderOf(t, s, hour);
    }

    public int sees(int t, int s) {
        if (isNoPlace(t, s)) {
            return BAD;
        }
        if (!now.rock.has(t, s)) {
            return found(BEYOND);
        }
        latestAsked = now.rock.lampedAbove(t, s);
        return now.rock.hoursSeen(t, s);
    }

    public int owes(int i, int j) {
        if (!now.rock.isNumber(i) || !now.rock.isNumber(j) || i == j) {
            return BAD;
        }
        ledger.reckon(now.rock);
        return ledger.lampsFromTo(i, j);
    }

    public int debt(int i) {
        if (!now.rock.isNumber(i)) {
            return BAD;
        }
        ledger.reckon(now.rock);
        latestAsked = ledger.debtOf(i);
        return 1;
    }

    public int light() {
        ledger.reckon(now.rock);
        latestAsked = ledger.allLamps;
        return ledger.allLight();
    }

    public int ruined() {
        ledger.reckon(now.rock);
        int most = NONE;
        for (int i = 0; i < now.rock.houseCount(); i++) {
            if (most == NONE || ledger.owingOf(i) > ledger.owingOf(most)) {
                most = i;
            }
        }
        if (most != NONE) {
            latestAsked = ledger.owingOf(most);
        }
        return most;
    }

    public int sways() {
        int first = NONE;
        int swaying = 0;
        Rock rock = now.rock;
        for (int t = 0; t < rock.towerCount(); t++) {
            for (int s = 0; s < rock.heightOf(t); s++) {
                if (rock.isSwaying(t, s)) {
                    first = swaying == 0 ? rock.numberOf(t, s) : first;
                    swaying++;
                }
            }
        }
        latestAsked = swaying;
        return first;
    }

    // ---- 4 what to build, who is to go (aside)

    public int best(int kind, int v) {
        if (!isKind(kind) || !isBorne(v)) {
            return BAD;
        }
        if (now.rock.towerCount() == 0) {
            return STATE;
        }
        aside.takeFrom(now.rock);
        int first = NONE;
        int least = 0;
        for (int t = 0; t < aside.towerCount(); t++) {
            if (aside.push(t, kind, v)) {
                int lamps = lampsWhereSteady(aside);
                if (lamps != NONE && (first == NONE || lamps < least)) {
                    first = t;
                    least = lamps;
                }
                aside.pop(t);
            }
        }
        if (first != NONE) {
            latestAsked = least;
        }
        return first;
    }

    public int both(int kind, int other, int v) {
        if (!isKind(kind) || !isKind(other) || !isBorne(v)) {
            return BAD;
        }
        int towers = now.rock.towerCount();
        if (towers == 0) {
            return STATE;
        }
        aside.takeFrom(now.rock);
        int first = NONE;
        int least = 0;
        for (int one = 0; one < towers; one++) {
            if (!aside.push(one, kind, v)) {
                continue;
            }
            for (int two = 0; two < towers; two++) {
                if (aside.push(two, other, v)) {
                    int lamps = lampsWhereSteady(aside);
                    if (lamps != NONE && (first == NONE || lamps < least)) {
                        first = 10 * one + two;
                        least = lamps;
                    }
                    aside.pop(two);
                }
            }
            aside.pop(one);
        }
        if (first != NONE) {
            latestAsked = least;
        }
        return first;
    }

    public int fewest() {
        int count = MOST_LEAVING + 1;
        int which = 0;
        int sets = 1 << now.rock.houseCount();
        // Upward by numbers, and only a smaller set takes the place: so the least number of the fewest stays.
        for (int gone = 0; gone < sets && count > 0; gone++) {
            int size = Integer.bitCount(gone);
            if (size < count) {
                aside.takeWithout(now.rock, gone);
                if (aside.isSteady()) {
                    count = size;
                    which = gone;
                }
            }
        }
        if (count > MOST_LEAVING) {
            return NONE;
        }
        latestAsked = which;
        return count;
    }

    public int relief() {
        ledger.reckon(now.rock);
        int before = ledger.allLight();
        int first = NONE;
        int most = 0;
        for (int i = 0; i < now.rock.houseCount(); i++) {
            ledger.reckon(now.rock);
            int others = before - ledger.lightOf(i);
            aside.takeWithout(now.rock, 1 << i);
            ledger.reckon(aside);
            int more = ledger.allLight() - others;
            if (first == NONE || more > most) {
                first = i;
                most = more;
            }
        }
        if (first != NONE) {
            latestAsked = most;
        }
        return first;
    }

    public int high(int t, int v) {
        if (!now.rock.isTower(t) || !isBorne(v)) {
            return BAD;
        }
        aside.takeFrom(now.rock);
        int built = 0;
        while (built < MOST_STOREYS && aside.push(t, HOUSE, v) && aside.isSteady()) {
            built++;
        }
        return built;
    }

    // ---- 5 settled

    public int settle() {
        ledger.reckon(now.rock);
        settling.clear();
        for (int i = 0; i < now.rock.houseCount(); i++) {
            settling.add(ledger.debtOf(i));
        }
        return settling.fewestPayments();
    }

    public int rings() {
        ledger.reckon(now.rock);
        latestAsked = ledger.mutualPairs();
        return ledger.ringed();
    }

    // ---- 6 by turns

    public int game(int v, int n) {
        if (!isBorne(v) || n < 0 || n > MOST_TURNS) {
            return BAD;
        }
        if (now.rock.towerCount() == 0) {
            return STATE;
        }
        aside.takeFrom(now.rock);
        return winningTower(aside, v, n) == NONE ? 0 : 1;
    }

    public int begin(int v, int n) {
        if (!isBorne(v) || n < 0 || n > MOST_TURNS) {
            return BAD;
        }
        if (now.rock.towerCount() == 0) {
            return STATE;
        }
        aside.takeFrom(now.rock);
        return winningTower(aside, v, n);
    }

    // ---- 7 what was seen

    public int fog(int r) {
        if (!rows.knows(r)) {
            return BAD;
        }
        if (!rows.isThere(r)) {
            return found(NOTHING);
        }
        if (rows.sizeOf(r) != now.rock.houseCount()) {
            return found(SIZE);
        }
        ledger.reckon(now.rock);
        int ways = 0;
        int first = NONE;
        for (int fogged = 0; fogged <= ALL_HOURS; fogged++) {
            if (isLightAsIn(r, fogged)) {
                first = ways == 0 ? fogged : first;
                ways++;
            }
        }
        latestAsked = first;
        return ways;
    }

    public int kinds(int t, int s, int r) {
        if (isNoPlace(t, s) || !rows.knows(r)) {
            return BAD;
        }
        if (!now.rock.has(t, s)) {
            return found(BEYOND);
        }
        if (!rows.isThere(r)) {
            return found(NOTHING);
        }
        if (rows.sizeOf(r) != now.rock.houseCount()) {
            return found(SIZE);
        }
        aside.takeFrom(now.rock);
        int fitting = 0;
        for (int kind = 0; kind < KINDS; kind++) {
            aside.change(t, s, kind, aside.borneAt(t, s));
            ledger.reckon(aside);
            if (isLightAsIn(r, 0)) {
                fitting |= 1 << kind;
            }
        }
        return fitting;
    }

    public int odds(int t, int s) {
        if (isNoPlace(t, s)) {
            return BAD;
        }
        if (!now.rock.has(t, s)) {
            return found(BEYOND);
        }
        int seen = Integer.bitCount(now.rock.hoursSeen(t, s));
        // 5 is a prime: only all of it and none of it can be told in lower terms.
        boolean isWhole = seen == 0 || seen == HOURS;
        latestUpper = isWhole ? seen / HOURS : seen;
        latestLower = isWhole ? 1 : HOURS;
        return 1;
    }

    // ---- 8 lots

    public int lots(int n, int seed) {
        if (n < 1 || n > MOST_LOTS || seed < 1 || seed >= LOT_MODULUS) {
            return BAD;
        }
        int towers = now.rock.towerCount();
        if (towers == 0) {
            return STATE;
        }
        if (!now.hasRoomFor(n)) {
            return FULL;
        }
        int built = 0;
        long lot = seed;
        for (int i = 0; i < n; i++) {
            lot = lot * LOT_FACTOR % LOT_MODULUS;
            int storey = build((int) (lot % towers), (int) (lot / 8 % KINDS), (int) (lot / 64 % 10));
            if (storey >= 0) {
                built++;
            }
        }
        return built;
    }

    // ---- 9 what is told

    public int asked() {
        return latestAsked;
    }

    public long upper() {
        return latestUpper;
    }

    public long lower() {
        return latestLower;
    }

    public int count(int what) {
        if (what < 0 || what > LAST_COUNTED) {
            return BAD;
        }
        switch (what) {
            case 0:
                return now.rock.towerCount();
            case 1:
                return now.rock.houseCount();
            case 2:
                return now.deeds;
            case 3:
                return now.rock.mostStoreys();
            case 4:
                return now.rock.countOf(GLASS);
            case 5:
                return now.rock.countOf(LEANING);
            case 6:
                return rows.thereCount();
            case 7:
                return texts.thereCount();
            default:
                return keptCount();
        }
    }

    public int finding() {
        return latestFinding;
    }

    public int findings(int f) {
        return f < 1 || f > LAST_FINDING ? BAD : findingCounts[f];
    }

    public long digest() {
        long h = 17;
        for (int what = 0; what <= LAST_COUNTED; what++) {
            h = 31 * h + count(what);
        }
        h = digestHouses(h);
        for (int k = 0; k < KEPT_ROCKS; k++) {
            h = 31 * h + deedsKeptIn(k);
        }
        h = rows.digestAll(h);
        return texts.digestAll(h);
    }

    // ---- what the calls share

    private int found(int finding) {
        latestFinding = finding;
        if (finding >= 0 && finding < findingCounts.length) {
            findingCounts[finding]++;
        }
        return FINDING;
    }

    private boolean isNoPlace(int t, int s) {
        return !now.rock.isTower(t) || s < 0;
    }

    private static boolean isKind(int kind) {
        return kind >= 0 && kind < KINDS;
    }

    private static boolean isBorne(int v) {
        return v >= 0 && v <= MOST_BORNE;
    }

    /** Whether a HOUSE of one KIND is one of another, too: an EMPTY one is a GLASS one, a LAMPED one a LEANING one. */
    private static boolean isOf(int kind, int other) {
        return kind == other || kind == EMPTY && other == GLASS || kind == LAMPED && other == LEANING;
    }

    private static int kindOfLetter(int letter) {
        for (int kind = 0; kind < LETTERS.length; kind++) {
            if (LETTERS[kind] == letter) {
                return kind;
            }
        }
        return NO_KIND;
    }

    /** Reads a TEXT into the rock aside: its FAULT, or NONE. */
    private int readAside(int t) {
        int size = texts.sizeOf(t);
        aside.clear();
        int i = 0;
        while (i < size) {
            int letter = texts.get(t, i);
            if (letter == TOWER_LETTER && !aside.addTower()) {
                return i;
            }
            if (letter == TOWER_LETTER || letter == BLANK) {
                i++;
                continue;
            }
            int last = aside.towerCount() - 1;
            int kind = kindOfLetter(letter);
            if (kind == NO_KIND || !aside.hasRoom(last)) {
                return i;
            }
            int figure = texts.get(t, i + 1) - FIGURE_NOUGHT;
            if (i + 1 >= size || !isBorne(figure)) {
                return i + 1;
            }
            aside.push(last, kind, figure);
            i += 2;
        }
        return aside.towerCount() == 0 ? size : NONE;
    }

    /** What house() tells of a HOUSE, the ledger being reckoned. */
    private int toldOf(int t, int s, int what) {
        int number = now.rock.numberOf(t, s);
        switch (what) {
            case 0:
                return number;
            case 1:
                return now.rock.kindAt(t, s);
            case 2:
                return now.rock.borneAt(t, s);
            case 3:
                return now.rock.weightOn(t, s);
            case 4:
                return ledger.lightOf(number);
            case 5:
                return ledger.owingOf(number);
            default:
                return ledger.owedOf(number);
        }
    }

    private int markOf(int t, int s, int kind) {
        switch (kind) {
            case GLASS:
                return hoursTakenIfHouse(t, s);
            case LEANING:
                return Math.min(now.rock.heightOf(t + 1), s + 1);
            case GARDEN:
                ledger.reckon(now.rock);
                return ledger.owedOf(now.rock.numberOf(t, s));
            case EMPTY:
                return now.rock.heightOf(t) - 1 - s;
            default:
                return lightenedBelow(t, s);
        }
    }

    /** A HOUSE of KIND 0 in a GLASS one's place shades no HOUSE less than now, so the difference is what it takes. */
    private int hoursTakenIfHouse(int t, int s) {
        int before = hoursSeenInAll(now.rock);
        aside.takeFrom(now.rock);
        aside.change(t, s, HOUSE, aside.borneAt(t, s));
        return before - hoursSeenInAll(aside);
    }

    private static int hoursSeenInAll(Rock rock) {
        int sum = 0;
        for (int t = 0; t < rock.towerCount(); t++) {
            for (int s = 0; s < rock.heightOf(t); s++) {
                sum += Integer.bitCount(rock.hoursSeen(t, s));
            }
        }
        return sum;
    }

    private int lightenedBelow(int t, int s) {
        int lightened = 0;
        for (int below = 0; below < s; below++) {
            int seen = Integer.bitCount(now.rock.hoursSeen(t, below));
            // Beyond the most LIGHT one lamp fewer would be the same.
            if (seen + now.rock.lampedAbove(t, below) <= MOST_LIGHT) {
                lightened++;
            }
        }
        return lightened;
    }

    private Story keptAt(int k) {
        return k >= 0 && k < kept.length ? kept[k] : null;
    }

    private int deedsKeptIn(int k) {
        Story story = keptAt(k);
        return story == null ? MISSING : story.deeds;
    }

    private int keptCount() {
        int count = 0;
        for (int k = 0; k < KEPT_ROCKS; k++) {
            if (deedsKeptIn(k) != MISSING) {
                count++;
            }
        }
        return count;
    }

    private void forgetKept() {
        for (int k = 0; k < KEPT_ROCKS; k++) {
            Story story = keptAt(k);
            if (story != null) {
                story.forget();
            }
        }
    }

    /** All lamps that are owed on a rock; NONE, where something SWAYS. */
    private int lampsWhereSteady(Rock rock) {
        if (!rock.isSteady()) {
            return NONE;
        }
        ledger.reckon(rock);
        return ledger.allLamps;
    }

    /** The first TOWER by which the one whose turn it is wins, left HOUSES being still to come at most; NONE. */
    private static int winningTower(Rock rock, int v, int left) {
        if (left <= 0) {
            return NONE;
        }
        for (int t = 0; t < rock.towerCount(); t++) {
            if (rock.push(t, HOUSE, v)) {
                boolean isWon = rock.isSteady() && winningTower(rock, v, left - 1) == NONE;
                rock.pop(t);
                if (isWon) {
                    return t;
                }
            }
        }
        return NONE;
    }

    /** Whether the LIGHT in the ledger, some HOURS being in fog, is what stands in a ROW. */
    private boolean isLightAsIn(int r, int fogged) {
        for (int i = 0; i < rows.sizeOf(r); i++) {
            if (rows.get(r, i) != ledger.lightIn(i, fogged)) {
                return false;
            }
        }
        return true;
    }

    private long digestHouses(long start) {
        long h = start;
        ledger.reckon(now.rock);
        for (int t = 0; t < now.rock.towerCount(); t++) {
            h = 31 * h + now.rock.heightOf(t);
            for (int s = 0; s < now.rock.heightOf(t); s++) {
                for (int what = 0; what <= LAST_TOLD; what++) {
                    h = 31 * h + toldOf(t, s, what);
                }
            }
        }
        return h;
    }

    /** The ROWS or the TEXTS: lines of numbers, each with a size or missing. */
    private static final class Shelf {
        private final int most;
        private final int blank;
        private final int[] sizes;
        private final int[] places;

        Shelf(int lines, int most, int blank) {
            this.most = Math.max(0, most);
            this.blank = blank;
            sizes = new int[Math.max(0, lines)];
            places = new int[sizes.length * this.most];
            for (int line = 0; line < sizes.length; line++) {
                sizes[line] = MISSING;
            }
        }

        boolean knows(int line) {
            return line >= 0 && line < sizes.length;
        }

        int sizeOf(int line) {
            return knows(line) ? sizes[line] : MISSING;
        }

        boolean isThere(int line) {
            return sizeOf(line) >= 0;
        }

        boolean has(int line, int i) {
            return i >= 0 && i < sizeOf(line);
        }

        boolean hasSpan(int line, int i, int n) {
            int size = sizeOf(line);
            // By a difference, as a sum might wrap around.
            return i >= 0 && n >= 0 && i <= size && n <= size - i;
        }

        int get(int line, int i) {
            return has(line, i) ? places[line * most + i] : blank;
        }

        void set(int line, int i, int v) {
            if (has(line, i)) {
                places[line * most + i] = v;
            }
        }

        void make(int line, int n) {
            if (!knows(line) || n < 0 || n > most) {
                return;
            }
            sizes[line] = n;
            for (int i = 0; i < n; i++) {
                set(line, i, blank);
            }
        }

        void drop(int line) {
            if (knows(line)) {
                sizes[line] = MISSING;
            }
        }

        void move(int line, int i, int to, int j, int n) {
            if (hasSpan(line, i, n) && hasSpan(to, j, n)) {
                System.arraycopy(places, line * most + i, places, to * most + j, n);
            }
        }

        long sumOf(int line) {
            long sum = 0;
            for (int i = 0; i < sizeOf(line); i++) {
                sum += get(line, i);
            }
            return sum;
        }

        int thereCount() {
            int count = 0;
            for (int line = 0; line < sizes.length; line++) {
                if (isThere(line)) {
                    count++;
                }
            }
            return count;
        }

        long digestAll(long start) {
            long h = start;
            for (int line = 0; line < sizes.length; line++) {
                h = 31 * h + sizeOf(line);
                for (int i = 0; i < sizeOf(line); i++) {
                    h = 31 * h + get(line, i);
                }
            }
            return h;
        }
    }

    /** The HOUSES in their TOWERS: who is whose number, what weighs, who takes whose sun. */
    private static final class Rock {
        private int towers;
        private int houses;
        // Of TOWERS that there are not the heights are 0, and so has() needs to ask for nothing else.
        private final int[] heights = new int[MOST_TOWERS];
        // KIND and what it BEARS in one number: so a rock is one row, quickly saved ahead of a DEED.
        private final int[] cells = new int[CELLS];

        void clear() {
            towers = 0;
            houses = 0;
            for (int t = 0; t < heights.length; t++) {
                heights[t] = 0;
            }
            for (int cell = 0; cell < cells.length; cell++) {
                cells[cell] = NO_HOUSE;
            }
        }

        boolean addTower() {
            if (towers >= MOST_TOWERS) {
                return false;
            }
            towers++;
            return true;
        }

        int towerCount() {
            return towers;
        }

        int houseCount() {
            return houses;
        }

        boolean isTower(int t) {
            return t >= 0 && t < towers;
        }

        boolean isNumber(int i) {
            return i >= 0 && i < houses;
        }

        int heightOf(int t) {
            return t >= 0 && t < heights.length ? heights[t] : 0;
        }

        boolean has(int t, int s) {
            return t >= 0 && t < heights.length && s >= 0 && s < heights[t];
        }

        boolean hasRoom(int t) {
            return isTower(t) && heightOf(t) < MOST_STOREYS && houses < MOST_HOUSES;
        }

        int kindAt(int t, int s) {
            return has(t, s) ? (cells[t * MOST_STOREYS + s] - 1) / 10 : NO_KIND;
        }

        int borneAt(int t, int s) {
            return has(t, s) ? (cells[t * MOST_STOREYS + s] - 1) % 10 : 0;
        }

        void change(int t, int s, int kind, int v) {
            if (has(t, s)) {
                cells[t * MOST_STOREYS + s] = 10 * kind + v + 1;
            }
        }

        boolean push(int t, int kind, int v) {
            if (!hasRoom(t)) {
                return false;
            }
            heights[t]++;
            houses++;
            change(t, heights[t] - 1, kind, v);
            return true;
        }

        void pop(int t) {
            remove(t, heightOf(t) - 1);
        }

        void remove(int t, int s) {
            if (!has(t, s)) {
                return;
            }
            int top = heights[t] - 1;
            for (int storey = s; storey < top; storey++) {
                change(t, storey, kindAt(t, storey + 1), borneAt(t, storey + 1));
            }
            cells[t * MOST_STOREYS + top] = NO_HOUSE;
            heights[t]--;
            houses--;
        }

        void takeFrom(Rock other) {
            takeWithout(other, 0);
        }

        /** As another one, some of whose HOUSES (bits, by numbers) are gone. */
        void takeWithout(Rock other, int gone) {
            clear();
            int number = 0;
            for (int t = 0; t < other.towers; t++) {
                addTower();
                for (int s = 0; s < other.heightOf(t); s++) {
                    if ((gone >> number & 1) == 0) {
                        push(t, other.kindAt(t, s), other.borneAt(t, s));
                    }
                    number++;
                }
            }
        }

        void saveTo(int[] store, int from) {
            if (from >= 0 && from <= store.length - CELLS) {
                System.arraycopy(cells, 0, store, from, CELLS);
            }
        }

        void loadFrom(int[] store, int from) {
            if (from < 0 || from > store.length - CELLS) {
                return;
            }
            System.arraycopy(store, from, cells, 0, CELLS);
            houses = 0;
            for (int t = 0; t < heights.length; t++) {
                heights[t] = housesIn(t);
                houses += heights[t];
            }
        }

        private int housesIn(int t) {
            int height = 0;
            for (int s = 0; s < MOST_STOREYS; s++) {
                int cell = t * MOST_STOREYS + s;
                if (cell >= 0 && cell < cells.length && cells[cell] != NO_HOUSE) {
                    height++;
                }
            }
            return height;
        }

        int numberOf(int t, int s) {
            int number = s;
            for (int west = 0; west < t; west++) {
                number += heightOf(west);
            }
            return number;
        }

        int mostStoreys() {
            int most = 0;
            for (int t = 0; t < towers; t++) {
                most = Math.max(most, heightOf(t));
            }
            return most;
        }

        int countOf(int kind) {
            int count = 0;
            for (int t = 0; t < towers; t++) {
                for (int s = 0; s < heightOf(t); s++) {
                    if (isOf(kindAt(t, s), kind)) {
                        count++;
                    }
                }
            }
            return count;
        }

        int weightOn(int t, int s) {
            int weight = 0;
            for (int above = s + 1; above < heightOf(t); above++) {
                weight += weightInOwnTower(t, kindAt(t, above));
            }
            for (int beside = s; beside < heightOf(t - 1); beside++) {
                if (isOf(kindAt(t - 1, beside), LEANING)) {
                    weight++;
                }
            }
            return weight;
        }

        private int weightInOwnTower(int t, int kind) {
            if (kind < 0 || kind >= WEIGHTS.length) {
                return 0;
            }
            // Where no TOWER is to the east, one that leans leans on its own.
            boolean isPropped = isOf(kind, LEANING) && !isTower(t + 1);
            return WEIGHTS[kind] + (isPropped ? 1 : 0);
        }

        boolean isSwaying(int t, int s) {
            return has(t, s) && weightOn(t, s) > borneAt(t, s);
        }

        boolean isSteady() {
            for (int t = 0; t < towers; t++) {
                for (int s = 0; s < heightOf(t); s++) {
                    if (isSwaying(t, s)) {
                        return false;
                    }
                }
            }
            return true;
        }

        /** The number of the HOUSE that takes the sun of one in an HOUR; NONE. */
        int shaderOf(int t, int s, int hour) {
            if (hour < 0 || hour >= EASTWARD.length || hour >= UPWARD.length) {
                return NONE;
            }
            for (int k = 1; k < MOST_STOREYS; k++) {
                int x = t + k * EASTWARD[hour];
                int y = s + k * UPWARD[hour];
                if (has(x, y) && !isOf(kindAt(x, y), GLASS)) {
                    return numberOf(x, y);
                }
            }
            return NONE;
        }

        int hoursSeen(int t, int s) {
            int seen = 0;
            for (int hour = 0; hour < HOURS; hour++) {
                if (shaderOf(t, s, hour) == NONE) {
                    seen |= 1 << hour;
                }
            }
            return seen;
        }

        int lampedAbove(int t, int s) {
            int lamped = 0;
            for (int above = s + 1; above < heightOf(t); above++) {
                if (kindAt(t, above) == LAMPED) {
                    lamped++;
                }
            }
            return lamped;
        }
    }

    /** A rock and its DEEDS; of a place in which none is kept the DEEDS are MISSING. */
    private static final class Story {
        private final Rock rock = new Rock();
        // How the HOUSES were ahead of each DEED: what bear() changed in between can be undone in no other way.
        private final int[] ahead = new int[MOST_DEEDS * CELLS];
        private int deeds;

        Story(int deeds) {
            this.deeds = deeds;
        }

        boolean isThere() {
            return deeds >= 0;
        }

        void forget() {
            deeds = MISSING;
        }

        void startWith(Rock other) {
            rock.takeFrom(other);
            deeds = 0;
        }

        boolean hasRoomFor(int more) {
            return deeds + more <= MOST_DEEDS;
        }

        void noteDeed() {
            if (hasRoomFor(1)) {
                rock.saveTo(ahead, deeds * CELLS);
                deeds++;
            }
        }

        void goBackTo(int n) {
            // With none to undo all stays, what bear() changed behind the last one, too.
            if (n >= 0 && n < deeds) {
                rock.loadFrom(ahead, n * CELLS);
                deeds = n;
            }
        }

        void takeFrom(Story other) {
            rock.takeFrom(other.rock);
            deeds = other.deeds;
            System.arraycopy(other.ahead, 0, ahead, 0, ahead.length);
        }
    }

    /** Who sees what and who OWES whom on a rock, by numbers, as it was last reckoned. */
    private static final class Ledger {
        private int houses;
        private int allLamps;
        private final int[] seen = new int[MOST_HOUSES];
        private final int[] lamped = new int[MOST_HOUSES];
        private final int[] owing = new int[MOST_HOUSES];
        private final int[] owed = new int[MOST_HOUSES];
        private final int[] lamps = new int[MOST_HOUSES * MOST_HOUSES];
        private final int[] owedInTheEnd = new int[MOST_HOUSES];

        void reckon(Rock rock) {
            houses = Math.min(rock.houseCount(), MOST_HOUSES);
            allLamps = 0;
            for (int i = 0; i < MOST_HOUSES; i++) {
                owing[i] = 0;
                owed[i] = 0;
            }
            for (int pair = 0; pair < lamps.length; pair++) {
                lamps[pair] = 0;
            }
            int number = 0;
            for (int t = 0; t < rock.towerCount(); t++) {
                for (int s = 0; s < rock.heightOf(t); s++) {
                    reckonHouse(rock, t, s, number);
                    number++;
                }
            }
        }

        private void reckonHouse(Rock rock, int t, int s, int number) {
            if (!isNumber(number)) {
                return;
            }
            lamped[number] = rock.lampedAbove(t, s);
            seen[number] = 0;
            int each = lampsAnHour(rock.kindAt(t, s));
            for (int hour = 0; hour < HOURS; hour++) {
                int shader = rock.shaderOf(t, s, hour);
                if (shader == NONE) {
                    seen[number] |= 1 << hour;
                } else {
                    charge(shader, number, each);
                }
            }
        }

        private static int lampsAnHour(int kind) {
            return kind == EMPTY ? 0 : kind == GARDEN ? 2 : 1;
        }

        private void charge(int from, int to, int count) {
            if (isNumber(from) && isNumber(to)) {
                lamps[from * MOST_HOUSES + to] += count;
                owing[from] += count;
                owed[to] += count;
                allLamps += count;
            }
        }

        private boolean isNumber(int i) {
            return i >= 0 && i < houses;
        }

        int lampsFromTo(int i, int j) {
            return isNumber(i) && isNumber(j) ? lamps[i * MOST_HOUSES + j] : 0;
        }

        int owingOf(int i) {
            return isNumber(i) ? owing[i] : 0;
        }

        int owedOf(int i) {
            return isNumber(i) ? owed[i] : 0;
        }

        int debtOf(int i) {
            return owingOf(i) - owedOf(i);
        }

        int lightOf(int i) {
            return lightIn(i, 0);
        }

        int lightIn(int i, int fogged) {
            return isNumber(i) ? Math.min(MOST_LIGHT, Integer.bitCount(seen[i] & ~fogged) + lamped[i]) : 0;
        }

        int allLight() {
            int sum = 0;
            for (int i = 0; i < houses; i++) {
                sum += lightOf(i);
            }
            return sum;
        }

        int mutualPairs() {
            int pairs = 0;
            for (int i = 0; i < houses; i++) {
                for (int j = i + 1; j < houses; j++) {
                    if (lampsFromTo(i, j) > 0 && lampsFromTo(j, i) > 0) {
                        pairs++;
                    }
                }
            }
            return pairs;
        }

        /** HOUSES (bits) that OWE themselves in the end. */
        int ringed() {
            for (int i = 0; i < houses; i++) {
                owedInTheEnd[i] = owedBy(i);
            }
            // By each HOUSE as the one between, in turn: behind the last one all rows are found.
            for (int between = 0; between < houses; between++) {
                for (int i = 0; i < houses; i++) {
                    if ((owedInTheEnd[i] >> between & 1) != 0) {
                        owedInTheEnd[i] |= owedInTheEnd[between];
                    }
                }
            }
            int ringed = 0;
            for (int i = 0; i < houses; i++) {
                ringed |= owedInTheEnd[i] & 1 << i;
            }
            return ringed;
        }

        private int owedBy(int i) {
            int bits = 0;
            for (int j = 0; j < houses; j++) {
                if (lampsFromTo(i, j) > 0) {
                    bits |= 1 << j;
                }
            }
            return bits;
        }
    }

    /** DEBTS that come to 0 in all, to be settled by the fewest payments. */
    private static final class Settling {
        private int count;
        private final int[] debts = new int[MOST_HOUSES];
        // Of each set of DEBTS, by its bits: into how many groups at most that each come to 0 it can be cut.
        private final int[] groups = new int[1 << MOST_HOUSES];

        void clear() {
            count = 0;
        }

        void add(int debt) {
            if (debt != 0 && count < debts.length) {
                debts[count] = debt;
                count++;
            }
        }

        /** A group that comes to 0 needs one payment fewer than it has members: so the most groups are wanted. */
        int fewestPayments() {
            int all = (1 << count) - 1;
            for (int set = 1; set <= all && set < groups.length; set++) {
                groups[set] = mostGroups(set);
            }
            return all > 0 && all < groups.length ? count - groups[all] : 0;
        }

        /** By the sets with one DEBT less, which have lower numbers. What is no whole group stays over, uncounted. */
        private int mostGroups(int set) {
            int sum = 0;
            int most = 0;
            for (int i = 0; i < count; i++) {
                int rest = set & ~(1 << i);
                if (rest > 0 && rest < set) {
                    most = Math.max(most, groups[rest]);
                }
                if (rest < set) {
                    sum += debts[i];
                }
            }
            return sum == 0 ? most + 1 : most;
        }
    }
}
