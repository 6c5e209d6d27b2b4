import java.util.ArrayDeque;
import java.util.ArrayList;
import java.util.Arrays;
import java.util.Comparator;
import java.util.Deque;
import java.util.HashSet;
import java.util.List;
import java.util.Set;
import java.util.regex.Matcher;
import java.util.regex.Pattern;

/**
 * The document once more, written another way than the class (values that never change, the Java library, no thought of
 * speed), for RandomTest to compare answers with.
 */
final class Model {
    static final int NONE = -1000000, BAD = -1000001, STATE = -1000002, FULL = -1000003;
    private static final List<String> KINDS = List.of("house", "church", "barn", "inn", "mill", "hut");
    private static final Pattern TOKEN = Pattern.compile("[a-z]+|[0-9]+|[^ \n]", Pattern.DOTALL);

    record Place(int lane, int yard) {
    }

    record House(String sort, int heavy, Place at, boolean chocked, int lent) {
        House moved(Place to) {
            return new House(sort, heavy, to, chocked, lent);
        }

        House withChock(boolean is) {
            return new House(sort, heavy, at, is, lent);
        }

        House lending(int hands) {
            return new House(sort, heavy, at, chocked, lent + hands);
        }
    }

    record World(int lanes, int deep, Set<Place> stones, List<House> houses, int winter) {
        World with(int h, House house) {
            List<House> changed = new ArrayList<>(houses);
            changed.set(h, house);
            return new World(lanes, deep, stones, changed, winter);
        }

        boolean isFree(Place p) {
            return p.yard < deep && !stones.contains(p) && houses.stream().noneMatch(h -> h.at.equals(p));
        }

        private boolean wants(int h) {
            House house = houses.get(h);
            if (house.sort.equals("church")) {
                return winter % 2 == 0;
            }
            return !house.sort.equals("barn")
                || houses.stream().filter(o -> o.at.yard == house.at.yard).count() == 1;
        }

        World next() {
            List<Integer> order = new ArrayList<>();
            for (int h = 0; h < houses.size(); h++) {
                order.add(h);
            }
            order.sort(Comparator.comparingInt((Integer h) -> -houses.get(h).at.yard).thenComparingInt(h -> h));
            World w = this;
            for (int h : order) {
                if (houses.get(h).chocked || !wants(h)) {
                    continue;
                }
                for (int times = houses.get(h).sort.equals("inn") ? 2 : 1; times > 0; times--) {
                    Place at = w.houses.get(h).at;
                    Place below = new Place(at.lane, at.yard + 1);
                    if (w.isFree(below)) {
                        w = w.with(h, w.houses.get(h).moved(below));
                    }
                }
            }
            return new World(lanes, deep, stones, w.houses, winter + 1);
        }

        World after(int n) {
            return n == 0 ? this : next().after(n - 1);
        }

        boolean beside(int a, int b) {
            Place p = houses.get(a).at;
            Place q = houses.get(b).at;
            return p.yard == q.yard && (p.lane + 1 == q.lane || q.lane + 1 == p.lane);
        }
    }

    private static final class Fault extends RuntimeException {
        private static final long serialVersionUID = 1;
        final int place;
        final int number;

        Fault(int place, int number) {
            this.place = place;
            this.number = number;
        }
    }

    private record Row(int lane, int[] items) {
    }

    private final Row[] rows = new Row[8];
    private final StringBuilder tape = new StringBuilder();
    private World world;
    private final World[] images = new World[2];
    private final Deque<World> acts = new ArrayDeque<>();
    private List<Integer> trace = new ArrayList<>();
    private int fault;
    private int status;

    // ---- rows

    private static boolean in(int v, int least, int most) {
        return least <= v && v <= most;
    }

    private int end(int finding, int answer) {
        status = finding;
        return finding == 0 ? answer : -1000010 - finding;
    }

    int row(int row, int lane, int n) {
        if (!in(row, 0, 7) || !in(lane, 0, 2) || n > 40) {
            return BAD;
        }
        if (n < 0) {
            return end(4, 0);
        }
        rows[row] = new Row(lane, new int[n]);
        return end(0, n);
    }

    int set(int row, int i, int v) {
        if (!in(row, 0, 7)) {
            return BAD;
        }
        if (rows[row] == null) {
            return end(1, 0);
        }
        if (!in(i, 0, rows[row].items.length - 1)) {
            return end(2, 0);
        }
        int shift = new int[] {24, 16, 0}[rows[row].lane];
        rows[row].items[i] = v << shift >> shift;
        return end(0, rows[row].items[i]);
    }

    private static boolean fits(Row row, long i, long n) {
        return i >= 0 && n >= 0 && i + n <= row.items.length;
    }

    int copy(int a, int i, int b, int j, int n) {
        if (!in(a, 0, 7) || !in(b, 0, 7)) {
            return BAD;
        }
        if (rows[a] == null || rows[b] == null) {
            return end(1, 0);
        }
        if (rows[a].lane != rows[b].lane) {
            return end(5, 0);
        }
        if (!fits(rows[a], i, n) || !fits(rows[b], j, n)) {
            return end(2, 0);
        }
        int[] taken = Arrays.copyOfRange(rows[a].items, i, i + n);
        for (int k = 0; k < n; k++) {
            rows[b].items[j + k] = taken[k];
        }
        return end(0, n);
    }

    int drop(int row) {
        if (!in(row, 0, 7)) {
            return BAD;
        }
        if (rows[row] == null) {
            return end(1, 0);
        }
        int had = rows[row].items.length;
        rows[row] = null;
        return end(0, had);
    }

    // ---- hills, winters

    int feed(long w, int n) {
        if (!in(n, 1, 8)) {
            return BAD;
        }
        if (tape.length() + n > 400) {
            return FULL;
        }
        for (int k = n; k > 0; k--) {
            tape.append((char) (w >>> (k - 1) * 8 & 255));
        }
        return tape.length();
    }

    /** The tokens of a text, one behind the other, each looked at as it is taken. */
    private static final class Tokens {
        final List<String> words = new ArrayList<>();
        final List<Integer> places = new ArrayList<>();
        int next;

        Tokens(String text) {
            Matcher m = TOKEN.matcher(text);
            while (m.find()) {
                words.add(m.group());
                places.add(m.start());
            }
            words.add("");
            places.add(text.length());
        }

        String look() {
            return words.get(next);
        }

        Fault fault(int number) {
            return new Fault(places.get(next), number);
        }

        String take(List<String> such) {
            if (!such.contains(look())) {
                throw fault(1);
            }
            return words.get(next++);
        }

        int take(int least, int most) {
            if (!look().matches("[0-9]{1,3}")) {
                throw fault(1);
            }
            int number = Integer.parseInt(look());
            if (!in(number, least, most)) {
                throw fault(2);
            }
            next++;
            return number;
        }
    }

    private static World read(String text) {
        Tokens t = new Tokens(text);
        t.take(List.of("slope"));
        int lanes = t.take(1, 4);
        int deep = t.take(4, 20);
        t.take(List.of(";"));
        Set<Place> stones = new HashSet<>();
        for (int told = 0; t.look().equals("stone"); told++) {
            if (told == 8) {
                throw t.fault(3);
            }
            t.next++;
            int lane = t.take(0, lanes - 1);
            stones.add(new Place(lane, t.take(0, deep - 1)));
            t.take(List.of(";"));
        }
        World w = new World(lanes, deep, stones, new ArrayList<>(), 0);
        while (t.look().equals("house")) {
            if (w.houses.size() == 6) {
                throw t.fault(3);
            }
            t.next++;
            String sort = t.take(KINDS.subList(1, 6));
            int lane = t.take(0, lanes - 1);
            Place at = new Place(lane, t.take(0, deep - 1));
            if (!w.isFree(at)) {
                t.next--;
                throw t.fault(2);
            }
            w.houses.add(new House(sort, t.take(1, 20), at, false, 0));
            t.take(List.of(";"));
        }
        t.take(List.of(""));
        return w;
    }

    int hill() {
        String text = tape.toString();
        tape.setLength(0);
        try {
            world = read(text);
            acts.clear();
            return world.houses.size();
        } catch (Fault f) {
            fault = f.number;
            return -1000100 - f.place;
        }
    }

    int fault() {
        return fault;
    }

    private boolean isHouse(int h) {
        return world != null && in(h, 0, world.houses.size() - 1);
    }

    private void act(World then) {
        acts.addLast(world);
        if (acts.size() > 24) {
            acts.removeFirst();
        }
        world = then;
    }

    int winter() {
        if (world == null) {
            return STATE;
        }
        if (world.winter == 9999) {
            return FULL;
        }
        World then = world.next();
        int rolled = 0;
        for (int h = 0; h < world.houses.size(); h++) {
            rolled += world.houses.get(h).equals(then.houses.get(h)) ? 0 : 1 << h;
        }
        act(then);
        return rolled;
    }

    int haul(int house, int lane) {
        if (!isHouse(house) || !in(lane, 0, world.lanes - 1)) {
            return BAD;
        }
        int others = world.houses.size() - 1;
        if (!world.isFree(new Place(lane, 0)) || others == 0) {
            return STATE;
        }
        int heavy = world.houses.get(house).heavy;
        World then = world.with(house, world.houses.get(house).moved(new Place(lane, 0)));
        // Hand by hand, one of each in turn.
        int lender = -1;
        for (int hand = 0; hand < heavy; hand++) {
            do {
                lender = (lender + 1) % (others + 1);
            } while (lender == house);
            then = then.with(lender, then.houses.get(lender).lending(1));
        }
        act(then);
        return heavy;
    }

    int chock(int house, int is) {
        if (!isHouse(house) || !in(is, 0, 1)) {
            return BAD;
        }
        House was = world.houses.get(house);
        act(world.with(house, was.withChock(is == 1)));
        return was.chocked ? 1 : 0;
    }

    int chocks(int row, int i, int n) {
        if (world == null) {
            return STATE;
        }
        if (!in(row, 0, 7) || !in(n, 1, 6)) {
            return BAD;
        }
        if (rows[row] == null) {
            return end(1, 0);
        }
        if (!fits(rows[row], i, n)) {
            return end(2, 0);
        }
        int[] told = Arrays.copyOfRange(rows[row].items, i, i + n);
        if (!Arrays.stream(told).allMatch(this::isHouse)) {
            return BAD;
        }
        int ahead = count(5);
        for (int h : told) {
            chock(h, 1);
        }
        return end(0, count(5) - ahead);
    }

    int undo() {
        if (acts.isEmpty()) {
            return STATE;
        }
        world = acts.removeLast();
        return acts.size();
    }

    int house(int house, int what) {
        if (!isHouse(house) || !in(what, 0, 5)) {
            return BAD;
        }
        House h = world.houses.get(house);
        int view = 0;
        while (world.isFree(new Place(h.at.lane, h.at.yard + 1 + view))) {
            view++;
        }
        return new int[] {h.at.lane, h.at.yard, h.heavy, h.chocked ? 1 : 0, h.lent, view}[what];
    }

    int yard(int lane, int yard) {
        if (world == null || !in(lane, 0, world.lanes - 1) || !in(yard, 0, world.deep - 1)) {
            return BAD;
        }
        return at(new Place(lane, yard));
    }

    private int at(Place p) {
        if (world.stones.contains(p)) {
            return -1;
        }
        for (House h : world.houses) {
            if (h.at.equals(p)) {
                return world.houses.indexOf(h);
            }
        }
        return -2;
    }

    // ---- foretold

    int ahead(int house, int n, int what) {
        if (!isHouse(house) || !in(n, 0, 40) || !in(what, 0, 1)) {
            return BAD;
        }
        Place p = world.after(n).houses.get(house).at;
        return what == 1 ? p.yard : p.lane;
    }

    int stream(int house) {
        if (!isHouse(house)) {
            return BAD;
        }
        for (int n = 0; n <= 40; n++) {
            if (world.after(n).houses.get(house).at.yard == world.deep - 1) {
                return n;
            }
        }
        return NONE;
    }

    int beside(int a, int b, int n) {
        if (!isHouse(a) || !isHouse(b) || a == b || !in(n, 0, 40)) {
            return BAD;
        }
        return world.after(n).beside(a, b) ? 1 : 0;
    }

    private World kept(World w, int h, boolean byAsk) {
        return w.with(h, w.houses.get(h).withChock(byAsk || world.houses.get(h).chocked));
    }

    int meet(int a, int b, int n, int what) {
        if (!isHouse(a) || !isHouse(b) || a == b || !in(n, 0, 20) || !in(what, 0, 1)) {
            return BAD;
        }
        int best = NONE;
        int first = NONE;
        for (int x = 0; x <= n; x++) {
            for (int y = 0; y <= n; y++) {
                if (best != NONE && x + y >= best) {
                    continue;
                }
                World w = world;
                for (int k = 0; k < n; k++) {
                    w = kept(kept(w, a, k < x), b, k < y).next();
                }
                if (w.beside(a, b)) {
                    best = x + y;
                    first = x;
                }
            }
        }
        return what == 0 ? best : first;
    }

    int street(int house) {
        if (!isHouse(house)) {
            return BAD;
        }
        Place p = world.houses.get(house).at;
        int bits = 0;
        for (int yard = p.yard; yard < world.deep; yard++) {
            int there = at(new Place(p.lane, yard));
            if (there < 0) {
                return there == -1 ? bits : 0;
            }
            bits |= 1 << there;
        }
        return bits;
    }

    int stood(int house, int w, int n) {
        if (!isHouse(house) || !in(w, 0, 40) || !in(n, 0, 40)) {
            return BAD;
        }
        House h = world.houses.get(house);
        int bits = 0;
        for (int yard = 0; yard < world.deep; yard++) {
            Place from = new Place(h.at.lane, yard);
            House alone = h.moved(from).withChock(false);
            World then = new World(world.lanes, world.deep, world.stones, List.of(alone), w).after(n);
            if (!world.stones.contains(from) && then.houses.get(0).at.equals(h.at)) {
                bits |= 1 << yard;
            }
        }
        return bits;
    }

    int stolen(int row) {
        if (world == null) {
            return STATE;
        }
        if (!in(row, 0, 7)) {
            return BAD;
        }
        if (rows[row] == null) {
            return end(1, 0);
        }
        int many = world.houses.size();
        if (rows[row].items.length < many) {
            return end(2, 0);
        }
        int[] told = Arrays.copyOf(rows[row].items, many);
        if (Arrays.stream(told).anyMatch(y -> !in(y, 0, world.deep - 1))) {
            return BAD;
        }
        for (int set = 0; set < 1 << many; set++) {
            World w = world;
            boolean all = true;
            for (int h = 0; h < many; h++) {
                if ((set & 1 << h) != 0) {
                    all &= w.houses.get(h).chocked;
                    w = w.with(h, w.houses.get(h).withChock(false));
                }
            }
            int[] comes = w.next().houses.stream().mapToInt(h -> h.at.yard).toArray();
            if (all && Arrays.equals(comes, told)) {
                return end(0, set);
            }
        }
        return end(0, NONE);
    }

    int image(int k) {
        if (!in(k, 0, 1)) {
            return BAD;
        }
        if (world == null) {
            return STATE;
        }
        images[k] = world;
        return 1;
    }

    int restore(int k) {
        if (!in(k, 0, 1)) {
            return BAD;
        }
        if (images[k] == null) {
            return STATE;
        }
        world = images[k];
        acts.clear();
        return 1;
    }

    // ---- asked: the kinds as Java's own classes, so that Java picks the bodies

    private static class AnyHouse {
        final int number;
        final House house;
        final List<Integer> left;

        AnyHouse(int number, House house, List<Integer> left) {
            this.number = number;
            this.house = house;
            this.left = left;
        }

        int size() {
            left.add(10);
            return house.heavy;
        }

        int mark() {
            left.add(20);
            return number;
        }
    }

    private static class Church extends AnyHouse {
        Church(int number, House house, List<Integer> left) {
            super(number, house, left);
        }

        @Override
        int size() {
            left.add(13);
            return super.size() - 100;
        }

        @Override
        int mark() {
            left.add(23);
            return super.mark() - size();
        }
    }

    private static final class Barn extends Church {
        Barn(int number, House house, List<Integer> left) {
            super(number, house, left);
        }

        @Override
        int size() {
            left.add(14);
            return 2 * super.size();
        }
    }

    private static class Inn extends AnyHouse {
        Inn(int number, House house, List<Integer> left) {
            super(number, house, left);
        }

        @Override
        int size() {
            left.add(11);
            return super.size() + mark();
        }

        @Override
        int mark() {
            left.add(21);
            return super.mark() + house.at.yard;
        }
    }

    private static final class Mill extends Inn {
        Mill(int number, House house, List<Integer> left) {
            super(number, house, left);
        }

        @Override
        int size() {
            left.add(12);
            return -super.size();
        }

        @Override
        int mark() {
            left.add(24);
            return 2 * super.mark();
        }
    }

    private static final class Hut extends Inn {
        Hut(int number, House house, List<Integer> left) {
            super(number, house, left);
        }

        @Override
        int mark() {
            left.add(22);
            return super.mark() - 1000;
        }
    }

    private AnyHouse living(int h, List<Integer> left) {
        House house = world.houses.get(h);
        switch (house.sort) {
            case "church":
                return new Church(h, house, left);
            case "barn":
                return new Barn(h, house, left);
            case "inn":
                return new Inn(h, house, left);
            case "mill":
                return new Mill(h, house, left);
            default:
                return new Hut(h, house, left);
        }
    }

    int kind(int house) {
        return isHouse(house) ? KINDS.indexOf(world.houses.get(house).sort) : BAD;
    }

    int as(int house, int kind) {
        if (!isHouse(house) || !in(kind, 0, 5)) {
            return BAD;
        }
        List<Class<?>> classes = List.of(AnyHouse.class, Church.class, Barn.class, Inn.class, Mill.class, Hut.class);
        return classes.get(kind).isInstance(living(house, trace)) ? end(0, house) : end(3, 0);
    }

    int ask(int house, int what) {
        if (!isHouse(house) || !in(what, 0, 1)) {
            return BAD;
        }
        trace = new ArrayList<>();
        AnyHouse asked = living(house, trace);
        return what == 0 ? asked.size() : asked.mark();
    }

    int trace(int i) {
        return in(i, 0, Math.min(16, trace.size()) - 1) ? trace.get(i) : NONE;
    }

    int count(int what) {
        if (!in(what, 0, 6)) {
            return BAD;
        }
        int present = (int) Arrays.stream(rows).filter(r -> r != null).count();
        int chocked = world == null ? 0 : (int) world.houses.stream().filter(House::chocked).count();
        return new int[] {present, world == null ? 0 : world.houses.size(), world == null ? 0 : world.stones.size(),
            world == null ? 0 : world.winter, acts.size(), chocked, tape.length()}[what];
    }

    int status() {
        return status;
    }
}
