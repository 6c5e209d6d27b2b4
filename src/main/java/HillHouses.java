import java.util.Arrays;

/** Houses on wheels on a slope: a text tells them, winters roll them, and what will be or was is asked of them. */
public final class HillHouses {
    public static final int NONE = -1000000, BAD = -1000001, STATE = -1000002, FULL = -1000003;

    private static final int FINDINGS = -1000010, FAULTS = -1000100;
    private static final int FOUND_NULL = 1, FOUND_PLACE = 2, FOUND_KIND = 3, FOUND_SIZE = 4, FOUND_STORE = 5;

    private static final int ROWS = 8, ITEMS_MOST = 40, BYTES = 0, SHORTS = 1, INTS = 2;
    private static final int TAPE_MOST = 400, FIGURES_MOST = 3, WORD_BYTES = 8;
    private static final int LANES_MOST = 4, DEEP_LEAST = 4, DEEP_MOST = 20, STONES_MOST = 8;
    private static final int HOUSES_MOST = 6, HEAVY_MOST = 20;
    private static final int WINTERS_MOST = 9999, AHEAD_MOST = 40, MEET_MOST = 20;
    private static final int ACTS_MOST = 24, IMAGES = 2, TRACE_MOST = 16;
    private static final int STONE = -1, NOTHING = -2;

    private static final int HOUSE = 0, CHURCH = 1, BARN = 2, INN = 3, MILL = 4, HUT = 5;

    private final Rows rows = new Rows();
    private final Tape tape = new Tape();
    private final Acts acts = new Acts();
    private final Asker asker = new Asker();
    private final Slope now = new Slope();
    // One slope for all that is tried out: a text that may be faulty, winters that are only foretold.
    private final Slope trial = new Slope();
    private final Slope[] images = new Slope[IMAGES];
    private int finding;

    public HillHouses() {
    }

    // ---- rows

    public int row(int row, int lane, int n) {
        if (!isRow(row) || !isUpTo(lane, INTS) || n > ITEMS_MOST) {
            return BAD;
        }
        if (n < 0) {
            return found(FOUND_SIZE);
        }
        rows.make(row, lane, n);
        return answered(n);
    }

    public int set(int row, int i, int v) {
        if (!isRow(row)) {
            return BAD;
        }
        if (rows.isMissing(row)) {
            return found(FOUND_NULL);
        }
        if (!rows.hasPlaces(row, i, 1)) {
            return found(FOUND_PLACE);
        }
        return answered(rows.put(row, i, v));
    }

    public int copy(int a, int i, int b, int j, int n) {
        if (!isRow(a) || !isRow(b)) {
            return BAD;
        }
        if (rows.isMissing(a) || rows.isMissing(b)) {
            return found(FOUND_NULL);
        }
        if (rows.laneOf(a) != rows.laneOf(b)) {
            return found(FOUND_STORE);
        }
        if (!rows.hasPlaces(a, i, n) || !rows.hasPlaces(b, j, n)) {
            return found(FOUND_PLACE);
        }
        rows.move(a, i, b, j, n);
        return answered(n);
    }

    public int drop(int row) {
        if (!isRow(row)) {
            return BAD;
        }
        if (rows.isMissing(row)) {
            return found(FOUND_NULL);
        }
        return answered(rows.remove(row));
    }

    // ---- hills, winters

    public int feed(long w, int n) {
        if (n < 1 || n > WORD_BYTES) {
            return BAD;
        }
        return tape.add(w, n) ? tape.size() : FULL;
    }

    public int hill() {
        boolean isRead = tape.readInto(trial);
        tape.clear();
        if (!isRead) {
            return FAULTS - tape.faultPlace();
        }
        now.takeFrom(trial);
        acts.forget();
        return now.houseCount();
    }

    public int fault() {
        return tape.faultNumber();
    }

    public int winter() {
        if (!now.stands()) {
            return STATE;
        }
        if (now.wintersGone() >= WINTERS_MOST) {
            return FULL;
        }
        acts.keep(now);
        return now.rollAll();
    }

    public int haul(int house, int lane) {
        if (!now.isHouse(house) || !now.isLane(lane)) {
            return BAD;
        }
        if (now.findAt(lane, 0) != NOTHING || now.houseCount() < 2) {
            return STATE;
        }
        acts.keep(now);
        return now.bringToTop(house, lane);
    }

    public int chock(int house, int is) {
        if (!now.isHouse(house) || !isUpTo(is, 1)) {
            return BAD;
        }
        return chockAsAct(house, is);
    }

    public int chocks(int row, int i, int n) {
        if (!now.stands()) {
            return STATE;
        }
        if (!isRow(row) || n < 1 || n > HOUSES_MOST) {
            return BAD;
        }
        if (rows.isMissing(row)) {
            return found(FOUND_NULL);
        }
        if (!rows.hasPlaces(row, i, n)) {
            return found(FOUND_PLACE);
        }
        for (int k = 0; k < n; k++) {
            if (!now.isHouse(rows.itemAt(row, i + k))) {
                return BAD;
            }
        }
        int free = 0;
        for (int k = 0; k < n; k++) {
            free += 1 - chockAsAct(rows.itemAt(row, i + k), 1);
        }
        return answered(free);
    }

    public int undo() {
        return acts.takeBack(now) ? acts.size() : STATE;
    }

    public int house(int house, int what) {
        if (!now.isHouse(house)) {
            return BAD;
        }
        switch (what) {
            case 0:
                return now.laneOf(house);
            case 1:
                return now.yardOf(house);
            case 2:
                return now.heavyOf(house);
            case 3:
                return now.isChocked(house) ? 1 : 0;
            case 4:
                return now.lentOf(house);
            case 5:
                return now.viewOf(house);
            default:
                return BAD;
        }
    }

    public int yard(int lane, int yard) {
        if (!now.isLane(lane) || !now.isYard(yard)) {
            return BAD;
        }
        return now.findAt(lane, yard);
    }

    // ---- foretold

    public int ahead(int house, int n, int what) {
        if (!now.isHouse(house) || !isUpTo(n, AHEAD_MOST) || !isUpTo(what, 1)) {
            return BAD;
        }
        trial.takeFrom(now);
        rollTrial(n);
        return what == 0 ? trial.laneOf(house) : trial.yardOf(house);
    }

    public int stream(int house) {
        if (!now.isHouse(house)) {
            return BAD;
        }
        trial.takeFrom(now);
        for (int gone = 0; gone <= AHEAD_MOST; gone++) {
            if (trial.isAtStream(house)) {
                return gone;
            }
            trial.rollAll();
        }
        return NONE;
    }

    public int beside(int a, int b, int n) {
        if (!isPair(a, b) || !isUpTo(n, AHEAD_MOST)) {
            return BAD;
        }
        trial.takeFrom(now);
        rollTrial(n);
        return trial.areBeside(a, b) ? 1 : 0;
    }

    public int meet(int a, int b, int n, int what) {
        if (!isPair(a, b) || !isUpTo(n, MEET_MOST) || !isUpTo(what, 1)) {
            return BAD;
        }
        for (int both = 0; both <= 2 * n; both++) {
            int most = Math.min(both, n);
            for (int x = both - most; x <= most; x++) {
                if (meetsBy(a, x, b, both - x, n)) {
                    return what == 0 ? both : x;
                }
            }
        }
        return NONE;
    }

    public int street(int house) {
        return now.isHouse(house) ? now.streetFrom(house) : BAD;
    }

    public int stood(int house, int w, int n) {
        if (!now.isHouse(house) || !isUpTo(w, AHEAD_MOST) || !isUpTo(n, AHEAD_MOST)) {
            return BAD;
        }
        trial.takeFrom(now);
        trial.leaveAlone(house);
        int yards = 0;
        for (int from = 0; from < DEEP_MOST && now.isYard(from); from++) {
            if (now.isStone(now.laneOf(house), from)) {
                continue;
            }
            trial.beginAlone(from, w);
            rollTrial(n);
            if (trial.yardOf(0) == now.yardOf(house)) {
                yards |= 1 << from;
            }
        }
        return yards;
    }

    public int stolen(int row) {
        if (!now.stands()) {
            return STATE;
        }
        if (!isRow(row)) {
            return BAD;
        }
        if (rows.isMissing(row)) {
            return found(FOUND_NULL);
        }
        if (!rows.hasPlaces(row, 0, now.houseCount())) {
            return found(FOUND_PLACE);
        }
        for (int h = 0; h < now.houseCount(); h++) {
            if (!now.isYard(rows.itemAt(row, h))) {
                return BAD;
            }
        }
        for (int set = 0; set < 1 << HOUSES_MOST; set++) {
            if (now.areChocked(set) && comesSo(row, set)) {
                return answered(set);
            }
        }
        return answered(NONE);
    }

    public int image(int k) {
        if (!isUpTo(k, IMAGES - 1)) {
            return BAD;
        }
        if (!now.stands()) {
            return STATE;
        }
        Slope image = images[k];
        if (image == null) {
            image = new Slope();
            images[k] = image;
        }
        image.takeFrom(now);
        return 1;
    }

    public int restore(int k) {
        if (!isUpTo(k, IMAGES - 1)) {
            return BAD;
        }
        Slope image = images[k];
        if (image == null) {
            return STATE;
        }
        now.takeFrom(image);
        acts.forget();
        return 1;
    }

    // ---- asked

    public int kind(int house) {
        return now.isHouse(house) ? now.kindOf(house) : BAD;
    }

    public int as(int house, int kind) {
        if (!now.isHouse(house) || !isUpTo(kind, HUT)) {
            return BAD;
        }
        if (!Asker.isSuch(now.kindOf(house), kind)) {
            return found(FOUND_KIND);
        }
        return answered(house);
    }

    public int ask(int house, int what) {
        if (!now.isHouse(house) || !isUpTo(what, 1)) {
            return BAD;
        }
        return asker.answer(now, house, what);
    }

    public int trace(int i) {
        return asker.traceAt(i);
    }

    public int count(int what) {
        switch (what) {
            case 0:
                return rows.size();
            case 1:
                return now.houseCount();
            case 2:
                return now.stoneCount();
            case 3:
                return now.wintersGone();
            case 4:
                return acts.size();
            case 5:
                return now.chockedCount();
            case 6:
                return tape.size();
            default:
                return BAD;
        }
    }

    public int status() {
        return finding;
    }

    // ---- what the calls share

    private static boolean isUpTo(int v, int most) {
        return v >= 0 && v <= most;
    }

    private static boolean isRow(int row) {
        return isUpTo(row, ROWS - 1);
    }

    private boolean isPair(int a, int b) {
        return now.isHouse(a) && now.isHouse(b) && a != b;
    }

    private int found(int number) {
        finding = number;
        return FINDINGS - number;
    }

    private int answered(int answer) {
        finding = 0;
        return answer;
    }

    private int chockAsAct(int house, int is) {
        acts.keep(now);
        int was = now.isChocked(house) ? 1 : 0;
        now.putChock(house, is == 1);
        return was;
    }

    private void rollTrial(int n) {
        for (int gone = 0; gone < n; gone++) {
            trial.rollAll();
        }
    }

    private boolean meetsBy(int a, int x, int b, int y, int n) {
        trial.takeFrom(now);
        for (int gone = 0; gone < n; gone++) {
            trial.putChock(a, gone < x || now.isChocked(a));
            trial.putChock(b, gone < y || now.isChocked(b));
            trial.rollAll();
        }
        return trial.areBeside(a, b);
    }

    private boolean comesSo(int row, int stolen) {
        trial.takeFrom(now);
        for (int h = 0; h < now.houseCount(); h++) {
            if ((stolen >> h & 1) == 1) {
                trial.putChock(h, false);
            }
        }
        trial.rollAll();
        for (int h = 0; h < now.houseCount(); h++) {
            if (trial.yardOf(h) != rows.itemAt(row, h)) {
                return false;
            }
        }
        return true;
    }

    /** Rows of numbers, all in one array; a row that is missing has no bit in present. */
    private static final class Rows {
        private final int[] items = new int[ROWS * ITEMS_MOST];
        private final int[] lanes = new int[ROWS];
        private final int[] sizes = new int[ROWS];
        private int present;

        boolean isMissing(int row) {
            return !isRow(row) || (present >> row & 1) == 0;
        }

        boolean hasPlaces(int row, int i, int n) {
            return !isMissing(row) && i >= 0 && n >= 0 && i <= sizes[row] - n;
        }

        int laneOf(int row) {
            return isMissing(row) ? NONE : lanes[row];
        }

        int itemAt(int row, int i) {
            return hasPlaces(row, i, 1) ? items[row * ITEMS_MOST + i] : NONE;
        }

        int size() {
            return Integer.bitCount(present);
        }

        void make(int row, int lane, int n) {
            if (!isRow(row) || !isUpTo(n, ITEMS_MOST)) {
                return;
            }
            present |= 1 << row;
            lanes[row] = lane;
            sizes[row] = n;
            for (int i = 0; i < n; i++) {
                items[row * ITEMS_MOST + i] = 0;
            }
        }

        int put(int row, int i, int v) {
            if (!hasPlaces(row, i, 1)) {
                return NONE;
            }
            int kept = cut(v, lanes[row]);
            items[row * ITEMS_MOST + i] = kept;
            return kept;
        }

        void move(int a, int i, int b, int j, int n) {
            if (hasPlaces(a, i, n) && hasPlaces(b, j, n)) {
                System.arraycopy(items, a * ITEMS_MOST + i, items, b * ITEMS_MOST + j, n);
            }
        }

        int remove(int row) {
            if (isMissing(row)) {
                return NONE;
            }
            present &= ~(1 << row);
            return sizes[row];
        }

        private static int cut(int v, int lane) {
            if (lane == BYTES) {
                return (byte) v;
            }
            return lane == SHORTS ? (short) v : v;
        }
    }

    /** The bytes that were fed, and the reading of them, a token at a time. */
    private static final class Tape {
        private static final int END = 0, NAME = 1, NUMBER = 2, SIGN = 3, OTHER = 4;
        private static final int FAULT_TOKEN = 1, FAULT_NUMBER = 2, FAULT_ROOM = 3;
        // No number of a text is below nought.
        private static final int FAULTY = -1;

        private final byte[] bytes = new byte[TAPE_MOST];
        private int size;
        private int form, from, to, number;
        private int fault, place;

        int size() {
            return size;
        }

        int faultNumber() {
            return fault;
        }

        int faultPlace() {
            return place;
        }

        void clear() {
            size = 0;
        }

        boolean add(long w, int n) {
            if (!isUpTo(n, WORD_BYTES) || size + n > TAPE_MOST) {
                return false;
            }
            for (int k = n - 1; k >= 0; k--) {
                bytes[size] = (byte) (w >> 8 * k);
                size++;
            }
            return true;
        }

        boolean readInto(Slope slope) {
            to = 0;
            step();
            if (!readSlope(slope)) {
                return false;
            }
            for (int told = 0; told <= STONES_MOST && isWord("stone"); told++) {
                if (told == STONES_MOST) {
                    return fail(FAULT_ROOM);
                }
                if (!readStone(slope)) {
                    return false;
                }
            }
            for (int told = 0; told <= HOUSES_MOST && isWord("house"); told++) {
                if (told == HOUSES_MOST) {
                    return fail(FAULT_ROOM);
                }
                if (!readHouse(slope)) {
                    return false;
                }
            }
            return form == END || fail(FAULT_TOKEN);
        }

        private boolean readSlope(Slope slope) {
            if (!takeWord("slope")) {
                return false;
            }
            int lanes = takeNumber(1, LANES_MOST);
            int deep = lanes == FAULTY ? FAULTY : takeNumber(DEEP_LEAST, DEEP_MOST);
            if (deep == FAULTY) {
                return false;
            }
            slope.layOut(lanes, deep);
            return takeSign();
        }

        private boolean readStone(Slope slope) {
            step();
            int lane = takeNumber(0, slope.laneCount() - 1);
            int yard = lane == FAULTY ? FAULTY : takeNumber(0, slope.yardCount() - 1);
            if (yard == FAULTY) {
                return false;
            }
            slope.addStone(lane, yard);
            return takeSign();
        }

        private boolean readHouse(Slope slope) {
            step();
            int kind = takeKind();
            int lane = kind == FAULTY ? FAULTY : takeNumber(0, slope.laneCount() - 1);
            if (lane == FAULTY) {
                return false;
            }
            if (form == NUMBER && slope.isYard(number) && slope.findAt(lane, number) != NOTHING) {
                return fail(FAULT_NUMBER);
            }
            int yard = takeNumber(0, slope.yardCount() - 1);
            int heavy = yard == FAULTY ? FAULTY : takeNumber(1, HEAVY_MOST);
            if (heavy == FAULTY) {
                return false;
            }
            slope.addHouse(kind, heavy, lane, yard);
            return takeSign();
        }

        private boolean takeWord(String word) {
            if (!isWord(word)) {
                return fail(FAULT_TOKEN);
            }
            step();
            return true;
        }

        private boolean takeSign() {
            if (form != SIGN) {
                return fail(FAULT_TOKEN);
            }
            step();
            return true;
        }

        private int takeNumber(int least, int most) {
            if (form != NUMBER || number < least || number > most) {
                fail(form == NUMBER ? FAULT_NUMBER : FAULT_TOKEN);
                return FAULTY;
            }
            int taken = number;
            step();
            return taken;
        }

        private int takeKind() {
            int kind = kindByWord();
            if (kind == FAULTY) {
                fail(FAULT_TOKEN);
            } else {
                step();
            }
            return kind;
        }

        private int kindByWord() {
            if (isWord("church")) {
                return CHURCH;
            }
            if (isWord("barn")) {
                return BARN;
            }
            if (isWord("inn")) {
                return INN;
            }
            if (isWord("mill")) {
                return MILL;
            }
            return isWord("hut") ? HUT : FAULTY;
        }

        /** Tells the fault of the token that is at hand, and answers false for its reader to hand on. */
        private boolean fail(int faultNumber) {
            fault = faultNumber;
            place = from;
            return false;
        }

        private boolean isWord(String word) {
            if (form != NAME || to - from != word.length()) {
                return false;
            }
            for (int k = 0; k < word.length(); k++) {
                if (byteAt(from + k) != word.charAt(k)) {
                    return false;
                }
            }
            return true;
        }

        private void step() {
            from = to;
            while (from < size && isBlank(byteAt(from))) {
                from++;
            }
            to = from;
            if (from >= size) {
                form = END;
            } else if (isLetter(byteAt(from))) {
                stepOverName();
            } else if (isFigure(byteAt(from))) {
                stepOverNumber();
            } else {
                form = byteAt(from) == ';' ? SIGN : OTHER;
                to = from + 1;
            }
        }

        private void stepOverName() {
            form = NAME;
            while (to < size && isLetter(byteAt(to))) {
                to++;
            }
        }

        private void stepOverNumber() {
            number = 0;
            while (to < size && isFigure(byteAt(to))) {
                // Figures beyond the most would only make a number that is never read run over.
                if (to - from < FIGURES_MOST) {
                    number = number * 10 + byteAt(to) - '0';
                }
                to++;
            }
            form = to - from > FIGURES_MOST ? OTHER : NUMBER;
        }

        private int byteAt(int i) {
            return i >= 0 && i < TAPE_MOST ? bytes[i] & 255 : 0;
        }

        private static boolean isBlank(int b) {
            return b == 32 || b == 10;
        }

        private static boolean isLetter(int b) {
            return b >= 'a' && b <= 'z';
        }

        private static boolean isFigure(int b) {
            return b >= '0' && b <= '9';
        }
    }

    /** A hill: its slope, stones and houses, and which winter is to come. With no lanes it is none. */
    private static final class Slope {
        private static final int KEPT = 2 + 3 * HOUSES_MOST;

        private int lanes, deep, houses, winter;
        // Houses, as bits.
        private int chocked;
        // Yards of each lane, as bits.
        private final int[] stones = new int[LANES_MOST];
        private final int[] kindOf = new int[HOUSES_MOST];
        private final int[] heavyOf = new int[HOUSES_MOST];
        private final int[] laneOf = new int[HOUSES_MOST];
        private final int[] yardOf = new int[HOUSES_MOST];
        private final int[] lentOf = new int[HOUSES_MOST];
        // Of the winter that rolls: the yards as it began, the houses in the order of their turns, and what has
        // something in it (yards of each lane, as bits).
        private final int[] begunOf = new int[HOUSES_MOST];
        private final int[] turns = new int[HOUSES_MOST];
        private final int[] taken = new int[LANES_MOST];

        boolean stands() {
            return lanes > 0;
        }

        int laneCount() {
            return lanes;
        }

        int yardCount() {
            return deep;
        }

        int houseCount() {
            return houses;
        }

        int wintersGone() {
            return winter;
        }

        int chockedCount() {
            return Integer.bitCount(chocked);
        }

        int stoneCount() {
            int places = 0;
            for (int lane = 0; lane < LANES_MOST; lane++) {
                places += Integer.bitCount(stones[lane]);
            }
            return places;
        }

        boolean isLane(int lane) {
            return lane >= 0 && lane < lanes && lane < LANES_MOST;
        }

        boolean isYard(int yard) {
            return yard >= 0 && yard < deep;
        }

        boolean isHouse(int house) {
            return house >= 0 && house < houses && house < HOUSES_MOST;
        }

        int kindOf(int house) {
            return isHouse(house) ? kindOf[house] : HOUSE;
        }

        int heavyOf(int house) {
            return isHouse(house) ? heavyOf[house] : 0;
        }

        int laneOf(int house) {
            return isHouse(house) ? laneOf[house] : NONE;
        }

        int yardOf(int house) {
            return isHouse(house) ? yardOf[house] : NONE;
        }

        int lentOf(int house) {
            return isHouse(house) ? lentOf[house] : 0;
        }

        boolean isChocked(int house) {
            return isHouse(house) && (chocked >> house & 1) == 1;
        }

        boolean areChocked(int set) {
            return (set & ~chocked) == 0;
        }

        boolean isAtStream(int house) {
            return isHouse(house) && yardOf[house] == deep - 1;
        }

        boolean isStone(int lane, int yard) {
            return isLane(lane) && isYard(yard) && (stones[lane] >> yard & 1) == 1;
        }

        int findAt(int lane, int yard) {
            if (isStone(lane, yard)) {
                return STONE;
            }
            for (int h = 0; h < houses; h++) {
                if (yardOf(h) == yard && laneOf(h) == lane) {
                    return h;
                }
            }
            return NOTHING;
        }

        int viewOf(int house) {
            int lane = laneOf(house);
            int seen = 0;
            for (int yard = yardOf(house) + 1; yard < deep; yard++) {
                if (findAt(lane, yard) != NOTHING) {
                    break;
                }
                seen++;
            }
            return seen;
        }

        int streetFrom(int house) {
            int street = 0;
            int last = house;
            for (int many = 0; many < houses; many++) {
                street |= 1 << last;
                int below = findAt(laneOf(last), yardOf(last) + 1);
                if (isAtStream(last) || below == STONE) {
                    return street;
                }
                if (below == NOTHING) {
                    return 0;
                }
                last = below;
            }
            return 0;
        }

        boolean areBeside(int a, int b) {
            return yardOf(a) == yardOf(b) && Math.abs(laneOf(a) - laneOf(b)) == 1;
        }

        void layOut(int newLanes, int newDeep) {
            lanes = newLanes;
            deep = newDeep;
            houses = 0;
            winter = 0;
            chocked = 0;
            Arrays.fill(stones, 0);
            Arrays.fill(lentOf, 0);
        }

        void addStone(int lane, int yard) {
            if (isLane(lane) && isYard(yard)) {
                stones[lane] |= 1 << yard;
            }
        }

        void addHouse(int kind, int heavy, int lane, int yard) {
            if (houses >= HOUSES_MOST || !isLane(lane) || !isYard(yard)) {
                return;
            }
            kindOf[houses] = kind;
            heavyOf[houses] = heavy;
            laneOf[houses] = lane;
            yardOf[houses] = yard;
            houses++;
        }

        void takeFrom(Slope other) {
            lanes = other.lanes;
            deep = other.deep;
            houses = other.houses;
            winter = other.winter;
            chocked = other.chocked;
            System.arraycopy(other.stones, 0, stones, 0, LANES_MOST);
            System.arraycopy(other.kindOf, 0, kindOf, 0, HOUSES_MOST);
            System.arraycopy(other.heavyOf, 0, heavyOf, 0, HOUSES_MOST);
            System.arraycopy(other.laneOf, 0, laneOf, 0, HOUSES_MOST);
            System.arraycopy(other.yardOf, 0, yardOf, 0, HOUSES_MOST);
            System.arraycopy(other.lentOf, 0, lentOf, 0, HOUSES_MOST);
        }

        /** Writes down all that an act can make another. */
        void writeTo(int[] to, int at) {
            if (at < 0 || at > to.length - KEPT) {
                return;
            }
            to[at] = winter;
            to[at + 1] = chocked;
            System.arraycopy(laneOf, 0, to, at + 2, HOUSES_MOST);
            System.arraycopy(yardOf, 0, to, at + 2 + HOUSES_MOST, HOUSES_MOST);
            System.arraycopy(lentOf, 0, to, at + 2 + 2 * HOUSES_MOST, HOUSES_MOST);
        }

        void readFrom(int[] from, int at) {
            if (at < 0 || at > from.length - KEPT) {
                return;
            }
            winter = from[at];
            chocked = from[at + 1];
            System.arraycopy(from, at + 2, laneOf, 0, HOUSES_MOST);
            System.arraycopy(from, at + 2 + HOUSES_MOST, yardOf, 0, HOUSES_MOST);
            System.arraycopy(from, at + 2 + 2 * HOUSES_MOST, lentOf, 0, HOUSES_MOST);
        }

        void putChock(int house, boolean is) {
            if (isHouse(house)) {
                chocked = is ? chocked | 1 << house : chocked & ~(1 << house);
            }
        }

        int bringToTop(int house, int lane) {
            if (!isHouse(house) || !isLane(lane)) {
                return 0;
            }
            laneOf[house] = lane;
            yardOf[house] = 0;
            lendHands(house);
            return heavyOf[house];
        }

        private void lendHands(int house) {
            int others = houses - 1;
            if (others < 1) {
                return;
            }
            int each = heavyOf(house) / others;
            int more = heavyOf(house) % others;
            for (int h = 0; h < houses && h < HOUSES_MOST; h++) {
                if (h == house) {
                    continue;
                }
                lentOf[h] += each;
                if (more > 0) {
                    lentOf[h]++;
                    more--;
                }
            }
        }

        /** Leaves one house, not chocked, as house 0. */
        void leaveAlone(int house) {
            if (!isHouse(house)) {
                return;
            }
            kindOf[0] = kindOf[house];
            laneOf[0] = laneOf[house];
            houses = 1;
            chocked = 0;
        }

        void beginAlone(int yard, int firstWinter) {
            yardOf[0] = yard;
            winter = firstWinter;
        }

        /** One winter: which houses rolled, as bits. */
        int rollAll() {
            lineUp();
            int rolled = 0;
            for (int turn = 0; turn < houses && turn < HOUSES_MOST; turn++) {
                int house = turns[turn];
                if (mayRoll(house) && roll(house)) {
                    rolled |= 1 << house;
                }
            }
            winter++;
            return rolled;
        }

        private void lineUp() {
            System.arraycopy(stones, 0, taken, 0, LANES_MOST);
            for (int h = 0; h < houses && h < HOUSES_MOST; h++) {
                int yard = yardOf[h];
                begunOf[h] = yard;
                if (isLane(laneOf[h])) {
                    taken[laneOf[h]] |= 1 << yard;
                }
                int turn = h;
                while (turn > 0 && begunOf(turns[turn - 1]) < yard) {
                    turns[turn] = turns[turn - 1];
                    turn--;
                }
                turns[turn] = h;
            }
        }

        private int begunOf(int house) {
            return isHouse(house) ? begunOf[house] : NONE;
        }

        private boolean mayRoll(int house) {
            if (!isHouse(house) || isChocked(house)) {
                return false;
            }
            switch (kindOf[house]) {
                case CHURCH:
                    return winter % 2 == 0;
                case BARN:
                    return wasAloneInYard(house);
                default:
                    return true;
            }
        }

        private boolean wasAloneInYard(int house) {
            for (int h = 0; h < houses; h++) {
                if (h != house && begunOf(h) == begunOf(house)) {
                    return false;
                }
            }
            return true;
        }

        private boolean roll(int house) {
            int lane = laneOf(house);
            if (!isHouse(house) || !isLane(lane)) {
                return false;
            }
            int steps = kindOf[house] == INN ? 2 : 1;
            boolean isRolled = false;
            for (int step = 0; step < steps; step++) {
                int yard = yardOf[house];
                if (isYard(yard + 1) && (taken[lane] >> yard + 1 & 1) == 0) {
                    taken[lane] ^= 3 << yard;
                    yardOf[house] = yard + 1;
                    isRolled = true;
                }
            }
            return isRolled;
        }
    }

    /** The hill ahead of each of the latest acts, the oldest overwritten when there are too many. */
    private static final class Acts {
        private final int[] kept = new int[ACTS_MOST * Slope.KEPT];
        private int oldest, size;

        int size() {
            return size;
        }

        void forget() {
            size = 0;
        }

        void keep(Slope slope) {
            if (size == ACTS_MOST) {
                oldest = (oldest + 1) % ACTS_MOST;
                size--;
            }
            slope.writeTo(kept, (oldest + size) % ACTS_MOST * Slope.KEPT);
            size++;
        }

        boolean takeBack(Slope slope) {
            if (size == 0) {
                return false;
            }
            size--;
            slope.readFrom(kept, (oldest + size) % ACTS_MOST * Slope.KEPT);
            return true;
        }
    }

    /** Which kind is which, and the bodies that answer what houses are asked. */
    private static final class Asker {
        private static final int ASK_SIZE = 0, ASK_MARK = 1;
        // By kinds: the kind that it is, too (a house is only itself); the body told for it, 0 where none is.
        private static final int[] PARENT = {HOUSE, HOUSE, CHURCH, HOUSE, INN, INN};
        private static final int[] SIZE_BODY = {10, 13, 14, 11, 12, 0};
        private static final int[] MARK_BODY = {20, 23, 0, 21, 24, 22};
        // A mill's size goes deepest: 12, 11, 24, 21, 20.
        private static final int DEPTH_MOST = 8;

        private final int[] begun = new int[TRACE_MOST];
        private int size;

        static boolean isSuch(int kind, int wanted) {
            int at = kind;
            for (int up = 0; up < PARENT.length; up++) {
                if (at == wanted) {
                    return true;
                }
                at = parentOf(at);
            }
            return false;
        }

        private static int parentOf(int kind) {
            return isUpTo(kind, HUT) ? PARENT[kind] : HOUSE;
        }

        private static int bodyFor(int kind, int what) {
            int at = kind;
            for (int up = 0; up < PARENT.length; up++) {
                int told = isUpTo(at, HUT) ? (what == ASK_SIZE ? SIZE_BODY[at] : MARK_BODY[at]) : 0;
                if (told != 0) {
                    return told;
                }
                at = parentOf(at);
            }
            return 0;
        }

        int traceAt(int i) {
            return i >= 0 && i < size && i < TRACE_MOST ? begun[i] : NONE;
        }

        int answer(Slope slope, int house, int what) {
            size = 0;
            return askAnew(slope, house, what, 0);
        }

        private int askAnew(Slope slope, int house, int what, int depth) {
            return give(slope, house, bodyFor(slope.kindOf(house), what), depth);
        }

        private int give(Slope slope, int house, int body, int depth) {
            if (depth > DEPTH_MOST) {
                return 0;
            }
            leaveInTrace(body);
            int deeper = depth + 1;
            switch (body) {
                case 10:
                    return slope.heavyOf(house);
                case 11:
                    return give(slope, house, 10, deeper) + askAnew(slope, house, ASK_MARK, deeper);
                case 12:
                    return 0 - give(slope, house, 11, deeper);
                case 13:
                    return give(slope, house, 10, deeper) - 100;
                case 14:
                    return 2 * give(slope, house, 13, deeper);
                case 20:
                    return house;
                case 21:
                    return give(slope, house, 20, deeper) + slope.yardOf(house);
                case 22:
                    return give(slope, house, 21, deeper) - 1000;
                case 23:
                    return give(slope, house, 20, deeper) - askAnew(slope, house, ASK_SIZE, deeper);
                case 24:
                    return 2 * give(slope, house, 21, deeper);
                default:
                    return 0;
            }
        }

        private void leaveInTrace(int body) {
            if (size < TRACE_MOST) {
                begun[size] = body;
                size++;
            }
        }
    }
}
