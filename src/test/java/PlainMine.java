import java.util.ArrayDeque;
import java.util.ArrayList;
import java.util.Deque;
import java.util.List;
import java.util.regex.Matcher;
import java.util.regex.Pattern;

/**
 * The document once more, slow and written in another way, to be compared with the program: lamps know the gallery as
 * an object, the lad finds his way by looking at the cells beside him, texts are matched by a pattern.
 */
final class PlainMine {
    private static final String CELL = "[0-5]\\d";
    private static final String ONE_TO_SIXTY = "(?:0[1-9]|[1-5]\\d|60)";
    private static final Pattern COMMAND = Pattern.compile("g" + ONE_TO_SIXTY + "|m[0-2][1-5]|l[0-2]" + CELL
            + "[1-9]\\d\\d|s\\d\\d\\d|h[0-7][0-2]" + CELL + "|f[0-7](?:0[1-9]|[1-9]\\d)|a[01]|t" + ONE_TO_SIXTY);
    private static final Pattern TEXT = Pattern.compile("T(?:" + COMMAND.pattern() + ")*");

    private static final class Gallery {
        int number;
        int depth;
        int strokes;
    }

    private static final class Miner {
        Gallery gallery;
        int pace;
        int strokes;
        int dark;
    }

    private static final class Lamp {
        Gallery gallery;
        int cell;
        int reach;
        int oil;
    }

    private record Order(boolean isHang, int lamp, int gallery, int cell, int n) { }

    private record Place(int gallery, int cell) { }

    private static final class State {
        final List<Gallery> galleries = new ArrayList<>();
        final List<Miner> miners = new ArrayList<>();
        final List<Lamp> lamps = new ArrayList<>();
        final List<Order> orders = new ArrayList<>();
        Place lad = new Place(0, 0);
        Lamp carried;
        Integer fetched;
        int time;
        int store;
        int burnt;
        int spilled;
        int came;
        int dug;
        int steps = 4;
        boolean looks;

        State copy() {
            State other = new State();
            for (Gallery gallery : galleries) {
                other.addGallery(gallery.depth).strokes = gallery.strokes;
            }
            for (Miner miner : miners) {
                Miner twin = new Miner();
                twin.gallery = other.galleries.get(miner.gallery.number);
                twin.pace = miner.pace;
                twin.strokes = miner.strokes;
                twin.dark = miner.dark;
                other.miners.add(twin);
            }
            for (Lamp lamp : lamps) {
                Lamp twin = new Lamp();
                twin.gallery = lamp.gallery == null ? null : other.galleries.get(lamp.gallery.number);
                twin.cell = lamp.cell;
                twin.reach = lamp.reach;
                twin.oil = lamp.oil;
                other.lamps.add(twin);
                if (lamp == carried) {
                    other.carried = twin;
                }
            }
            other.orders.addAll(orders);
            other.lad = lad;
            other.fetched = fetched;
            other.time = time;
            other.store = store;
            other.burnt = burnt;
            other.spilled = spilled;
            other.came = came;
            other.dug = dug;
            other.steps = steps;
            other.looks = looks;
            return other;
        }

        Gallery addGallery(int depth) {
            Gallery gallery = new Gallery();
            gallery.number = galleries.size();
            gallery.depth = depth;
            galleries.add(gallery);
            return gallery;
        }

        boolean isLit(Gallery gallery, int cell) {
            return lamps.stream().anyMatch(lamp -> lamp.gallery == gallery && lamp.oil > 0
                    && Math.abs(lamp.cell - cell) <= lamp.reach);
        }

        boolean isFaceLit(Gallery gallery) {
            return isLit(gallery, gallery.depth);
        }

        int dark() {
            return miners.stream().mapToInt(miner -> miner.dark).sum();
        }
    }

    private State state = new State();
    private final Deque<State> remembered = new ArrayDeque<>();
    private final State[] slots = new State[2];
    private final StringBuilder text = new StringBuilder();

    private static void exists(boolean good) {
        if (!good) {
            throw new IndexOutOfBoundsException();
        }
    }

    private static void inRange(boolean good) {
        if (!good) {
            throw new IllegalArgumentException();
        }
    }

    private static void possible(boolean good) {
        if (!good) {
            throw new IllegalStateException();
        }
    }

    private static boolean in(int number, int low, int high) {
        return low <= number && number <= high;
    }

    private Gallery galleryAt(int g) {
        exists(in(g, 0, state.galleries.size() - 1));
        return state.galleries.get(g);
    }

    private void cellAt(int g, int c) {
        exists(in(c, 0, galleryAt(g).depth - 1));
    }

    private Miner minerAt(int m) {
        exists(in(m, 0, state.miners.size() - 1));
        return state.miners.get(m);
    }

    private Lamp lampAt(int l) {
        exists(in(l, 0, state.lamps.size() - 1));
        return state.lamps.get(l);
    }

    private void remember() {
        remembered.addLast(state.copy());
        if (remembered.size() > 14) {
            remembered.removeFirst();
        }
    }

    int append(int c) {
        inRange(in(c, 0, 255));
        possible(text.length() < 120);
        return text.append((char) c).length();
    }

    int clearText() {
        int length = text.length();
        text.setLength(0);
        return length;
    }

    int errorPosition() {
        if (TEXT.matcher(text).matches()) {
            return -1;
        }
        for (int end = 1; end <= text.length(); end++) {
            Matcher matcher = TEXT.matcher(text.substring(0, end));
            if (!matcher.matches() && !matcher.hitEnd()) {
                return end - 1;
            }
        }
        return text.length();
    }

    int load() {
        possible(errorPosition() == -1);
        state = new State();
        slots[0] = null;
        slots[1] = null;
        int leftOut = 0;
        Matcher matcher = COMMAND.matcher(text);
        while (matcher.find()) {
            try {
                command(matcher.group());
            } catch (IndexOutOfBoundsException | IllegalArgumentException | IllegalStateException refused) {
                leftOut++;
            }
        }
        remembered.clear();
        return leftOut;
    }

    private void command(String part) {
        int first = part.charAt(1) - '0';
        switch (part.charAt(0)) {
            case 'g' -> gallery(Integer.parseInt(part.substring(1)));
            case 'm' -> miner(first, part.charAt(2) - '0');
            case 'l' -> lamp(first, Integer.parseInt(part.substring(2, 4)), part.charAt(4) - '0',
                    Integer.parseInt(part.substring(5)));
            case 's' -> store(Integer.parseInt(part.substring(1)));
            case 'h' -> hang(first, part.charAt(2) - '0', Integer.parseInt(part.substring(3)));
            case 'f' -> fill(first, Integer.parseInt(part.substring(2)));
            case 'a' -> set(1, first);
            default -> hours(Integer.parseInt(part.substring(1)));
        }
    }

    int about(int what) {
        inRange(in(what, 0, 12));
        return new int[] {state.galleries.size(), state.miners.size(), state.lamps.size(), state.time, state.store,
            state.lamps.stream().mapToInt(lamp -> lamp.oil).sum(), state.fetched == null ? 0 : state.fetched,
            state.burnt, state.spilled, state.came, state.orders.size(), state.dark(), state.dug}[what];
    }

    private static int takes(Gallery gallery) {
        return 3 + (7 * gallery.depth + 5 * gallery.number) % 6;
    }

    int galleryOf(int g, int what) {
        Gallery gallery = galleryAt(g);
        inRange(in(what, 0, 5));
        return new int[] {gallery.depth, gallery.strokes, takes(gallery), state.isFaceLit(gallery) ? 1 : 0,
            (int) state.miners.stream().filter(miner -> miner.gallery == gallery).count(),
            (int) state.lamps.stream().filter(lamp -> lamp.gallery == gallery).count()}[what];
    }

    int minerOf(int m, int what) {
        Miner miner = minerAt(m);
        inRange(in(what, 0, 3));
        return new int[] {miner.gallery.number, miner.pace, miner.strokes, miner.dark}[what];
    }

    int lampOf(int l, int what) {
        Lamp lamp = lampAt(l);
        inRange(in(what, 0, 4));
        return new int[] {lamp.reach, lamp.oil, lamp.gallery == null ? -1 : lamp.gallery.number,
            lamp.gallery == null ? -1 : lamp.cell, lamp.oil > 0 ? 1 : 0}[what];
    }

    int lad(int what) {
        inRange(in(what, 0, 3));
        return new int[] {state.lad.gallery(), state.lad.cell(), state.lamps.indexOf(state.carried),
            stepsLeft()}[what];
    }

    private int stepsLeft() {
        Place lad = state.lad;
        Place[] places = new Place[8];
        for (int l = 0; l < state.lamps.size(); l++) {
            Lamp lamp = state.lamps.get(l);
            places[l] = lamp.gallery == null ? null : new Place(lamp.gallery.number, lamp.cell);
        }
        int steps = 0;
        for (int k = 0; k < state.orders.size(); k++) {
            Order order = state.orders.get(k);
            if (order.isHang()) {
                Place from = k == 0 && state.carried != null ? lad : places[order.lamp()];
                Place to = new Place(order.gallery(), order.cell());
                steps += between(lad, from) + between(from, to);
                places[order.lamp()] = to;
            } else if (k == 0 && state.fetched != null) {
                steps += between(lad, places[order.lamp()]);
            } else {
                steps += lad.cell() + places[order.lamp()].cell();
            }
            lad = places[order.lamp()];
        }
        return steps;
    }

    private static int between(Place one, Place other) {
        return one.gallery() == other.gallery() ? Math.abs(one.cell() - other.cell()) : one.cell() + other.cell();
    }

    int orderOf(int k, int what) {
        exists(in(k, 0, state.orders.size() - 1));
        inRange(in(what, 0, 3));
        Order order = state.orders.get(k);
        return new int[] {order.isHang() ? 0 : 1, order.lamp(), order.isHang() ? order.gallery() : order.n(),
            order.isHang() ? order.cell() : -1}[what];
    }

    int lit(int g, int way) {
        Gallery gallery = galleryAt(g);
        inRange(in(way, 0, 1));
        boolean[] cells = new boolean[gallery.depth];
        for (Lamp lamp : state.lamps) {
            for (int c = lamp.cell - lamp.reach; c <= lamp.cell + lamp.reach; c++) {
                if (lamp.gallery == gallery && lamp.oil > 0 && in(c, 0, gallery.depth - 1)) {
                    cells[c] = true;
                }
            }
        }
        int count = 0;
        for (boolean cell : cells) {
            count += cell ? 1 : 0;
        }
        return count;
    }

    int gallery(int d) {
        inRange(in(d, 1, 60));
        possible(state.galleries.size() < 3);
        remember();
        return state.addGallery(d).number;
    }

    int miner(int g, int pace) {
        Gallery gallery = galleryAt(g);
        inRange(in(pace, 1, 5));
        possible(state.miners.size() < 6);
        remember();
        Miner miner = new Miner();
        miner.gallery = gallery;
        miner.pace = pace;
        state.miners.add(miner);
        return state.miners.size() - 1;
    }

    int send(int m, int g) {
        Miner miner = minerAt(m);
        Gallery gallery = galleryAt(g);
        remember();
        int before = miner.gallery.number;
        miner.gallery = gallery;
        return before;
    }

    int lamp(int g, int c, int reach, int oil) {
        cellAt(g, c);
        inRange(in(reach, 1, 9) && in(oil, 0, 99));
        possible(state.lamps.size() < 8);
        remember();
        Lamp lamp = new Lamp();
        lamp.gallery = galleryAt(g);
        lamp.cell = c;
        lamp.reach = reach;
        lamp.oil = oil;
        state.lamps.add(lamp);
        state.came += oil;
        return state.lamps.size() - 1;
    }

    int store(int n) {
        inRange(in(n, 0, 999));
        possible(state.store + n <= 9999);
        remember();
        state.came += n;
        state.store += n;
        return state.store;
    }

    int hang(int l, int g, int c) {
        lampAt(l);
        cellAt(g, c);
        possible(state.orders.size() < 6);
        remember();
        state.orders.add(new Order(true, l, g, c, 0));
        return state.orders.size();
    }

    int fill(int l, int n) {
        lampAt(l);
        inRange(in(n, 1, 99));
        possible(state.orders.size() < 6);
        remember();
        state.orders.add(new Order(false, l, 0, 0, n));
        return state.orders.size();
    }

    int drop(int k) {
        exists(in(k, 0, state.orders.size() - 1));
        possible(k > 0 || state.carried == null && (state.fetched == null || state.fetched == 0));
        remember();
        state.orders.remove(k);
        if (k == 0) {
            state.fetched = null;
        }
        return state.orders.size();
    }

    int set(int what, int v) {
        inRange(what == 0 && in(v, 0, 12) || what == 1 && in(v, 0, 1));
        remember();
        int before = what == 0 ? state.steps : state.looks ? 1 : 0;
        if (what == 0) {
            state.steps = v;
        } else {
            state.looks = v == 1;
        }
        return before;
    }

    int hours(int n) {
        inRange(in(n, 1, 60));
        remember();
        int before = state.dug;
        pass(n);
        return state.dug - before;
    }

    int undo() {
        possible(!remembered.isEmpty());
        state = remembered.removeLast();
        return remembered.size();
    }

    private void pass(int n) {
        for (int i = 0; i < n; i++) {
            state.time++;
            dig();
            burn();
            work();
            look();
        }
    }

    private void dig() {
        for (Miner miner : state.miners) {
            Gallery gallery = miner.gallery;
            if (gallery.depth == 60) {
                continue;
            }
            if (!state.isFaceLit(gallery)) {
                miner.dark++;
                continue;
            }
            miner.strokes += miner.pace;
            gallery.strokes += miner.pace;
            while (gallery.strokes >= takes(gallery) && gallery.depth < 60) {
                gallery.strokes -= takes(gallery);
                gallery.depth++;
                state.dug++;
            }
        }
    }

    private void burn() {
        for (Lamp lamp : state.lamps) {
            if (lamp.oil > 0) {
                lamp.oil--;
                state.burnt++;
            }
        }
    }

    private void work() {
        withoutStep();
        for (int step = 0; step < state.steps && !state.orders.isEmpty(); step++) {
            goOn(target());
            withoutStep();
        }
    }

    /** Where the lad has to go for the first order; for oil to the mouth, which has the gallery -1 here. */
    private Place target() {
        Order order = state.orders.get(0);
        Lamp lamp = state.lamps.get(order.lamp());
        if (order.isHang() && lamp == state.carried) {
            return new Place(order.gallery(), order.cell());
        }
        if (!order.isHang() && state.fetched == null) {
            return new Place(-1, 0);
        }
        return new Place(lamp.gallery.number, lamp.cell);
    }

    private void goOn(Place target) {
        List<Place> beside = new ArrayList<>();
        beside.add(new Place(state.lad.gallery(), state.lad.cell() + 1));
        if (state.lad.cell() > 0) {
            beside.add(new Place(state.lad.gallery(), state.lad.cell() - 1));
        } else {
            for (int g = 0; g < state.galleries.size(); g++) {
                beside.add(new Place(g, 1));
            }
        }
        for (Place place : beside) {
            if (between(place, target) < between(state.lad, target)) {
                state.lad = place;
                return;
            }
        }
        throw new AssertionError("the lad is there already");
    }

    private boolean arriveAt(Place place) {
        if (between(state.lad, place) > 0) {
            return false;
        }
        if (place.gallery() >= 0) {
            state.lad = place;
        }
        return true;
    }

    private void withoutStep() {
        while (!state.orders.isEmpty() && arriveAt(target())) {
            Order order = state.orders.get(0);
            Lamp lamp = state.lamps.get(order.lamp());
            if (order.isHang() && state.carried == null) {
                state.carried = lamp;
                lamp.gallery = null;
            } else if (order.isHang()) {
                lamp.gallery = state.galleries.get(order.gallery());
                lamp.cell = order.cell();
                state.carried = null;
                state.orders.remove(0);
            } else if (state.fetched == null) {
                state.fetched = order.n() < state.store ? order.n() : state.store;
                state.store -= state.fetched;
            } else {
                lamp.oil += state.fetched;
                state.fetched = null;
                if (lamp.oil > 99) {
                    state.spilled += lamp.oil - 99;
                    lamp.oil = 99;
                }
                state.orders.remove(0);
            }
        }
    }

    private void look() {
        if (!state.looks || !state.orders.isEmpty()) {
            return;
        }
        for (Gallery gallery : state.galleries) {
            Lamp best = null;
            for (Lamp lamp : state.lamps) {
                if (lamp.gallery == gallery && lamp.oil > 0 && lamp.cell < gallery.depth - 1
                        && (best == null || lamp.oil > best.oil)) {
                    best = lamp;
                }
            }
            boolean hasMiner = state.miners.stream().anyMatch(miner -> miner.gallery == gallery);
            if (best != null && hasMiner && !state.isFaceLit(gallery) && in(gallery.depth, 2, 59)) {
                state.orders.add(new Order(true, state.lamps.indexOf(best), gallery.number, gallery.depth - 1, 0));
                return;
            }
        }
    }

    /** Something that is tried on a copy, and leaves nothing behind. */
    private interface Trial {
        int answer();
    }

    private int onCopy(Trial trial) {
        State kept = state;
        List<State> keptRemembered = new ArrayList<>(remembered);
        state = state.copy();
        try {
            return trial.answer();
        } finally {
            state = kept;
            remembered.clear();
            remembered.addAll(keptRemembered);
        }
    }

    int darkIn(int g) {
        galleryAt(g);
        return onCopy(() -> {
            for (int hours = 0; hours <= 200; hours++) {
                if (!state.isFaceLit(galleryAt(g))) {
                    return hours;
                }
                pass(1);
            }
            return -1;
        });
    }

    int depthIn(int g, int n) {
        galleryAt(g);
        inRange(in(n, 1, 200));
        return onCopy(() -> {
            pass(n);
            return galleryAt(g).depth;
        });
    }

    /** By the steps alone. */
    int doneIn() {
        if (state.orders.isEmpty()) {
            return 0;
        }
        int steps = stepsLeft();
        if (steps == 0) {
            return 1;
        }
        if (state.steps == 0) {
            return -1;
        }
        int hours = (steps + state.steps - 1) / state.steps;
        return hours <= 200 ? hours : -1;
    }

    int bestCell(int l, int g, int n) {
        lampAt(l);
        galleryAt(g);
        inRange(in(n, 1, 100));
        possible(state.orders.size() < 6);
        int best = -1;
        int most = -1;
        for (int cell = galleryAt(g).depth - 1; cell >= 0; cell--) {
            int c = cell;
            int dug = onCopy(() -> {
                hang(l, g, c);
                int before = state.dug;
                pass(n);
                return state.dug - before;
            });
            if (dug > most) {
                most = dug;
                best = c;
            }
        }
        return best;
    }

    int steps(int g, int c, int g2, int c2) {
        cellAt(g, c);
        cellAt(g2, c2);
        return between(new Place(g, c), new Place(g2, c2));
    }

    int runScript(int n, long script) {
        inRange(in(n, 1, 3) && script >= 0 && Long.toString(script).length() <= 6 * n);
        String digits = String.format("%018d", script).substring(18 - 6 * n);
        return onCopy(() -> {
            for (int i = 0; i < n; i++) {
                try {
                    possible(group(digits.substring(6 * i, 6 * i + 6)));
                } catch (IndexOutOfBoundsException | IllegalArgumentException | IllegalStateException failed) {
                    return i;
                }
            }
            return -1;
        });
    }

    private boolean group(String group) {
        int first = group.charAt(1) - '0';
        int second = group.charAt(2) - '0';
        int middle = Integer.parseInt(group.substring(3, 5));
        int last = Integer.parseInt(group.substring(4));
        if (group.matches("1000..")) {
            hours(last);
        } else if (group.matches("2....0")) {
            hang(first, second, middle);
        } else if (group.matches("3.0..0")) {
            fill(first, middle);
        } else if (group.matches("4.0..0")) {
            set(first, middle);
        } else if (group.matches("5..000")) {
            send(first, second);
        } else if (group.matches("6.000[01]")) {
            return state.isFaceLit(galleryAt(first)) == group.endsWith("1");
        } else if (group.matches("7.00..")) {
            return galleryAt(first).depth >= last;
        } else if (group.matches("8.00..")) {
            return lampAt(first).oil >= last;
        } else {
            return group.matches("90000.") && state.orders.size() <= last;
        }
        return true;
    }

    int simulate(long seed, int m) {
        inRange(in(m, 1, 60));
        return onCopy(() -> {
            int dug = state.dug;
            int dark = state.dark();
            long x = seed;
            for (int i = 0; i < m; i++) {
                x = x * 6364136223846793005L + 1442695040888963407L;
                try {
                    turn((int) (x >>> 33));
                } catch (IndexOutOfBoundsException | IllegalArgumentException | IllegalStateException leftOut) {
                    continue;
                }
            }
            return 1000 * (state.dug - dug) + Math.min(999, state.dark() - dark);
        });
    }

    private void turn(int r) {
        int q = r / 16;
        int kind = r % 16;
        if (kind == 0) {
            gallery(1 + q % 30);
        } else if (kind <= 2) {
            miner(q % 3, 1 + q / 4 % 5);
        } else if (kind == 3) {
            lamp(q % 3, q / 4 % 30, 1 + q / 128 % 9, q / 2048 % 100);
        } else if (kind == 4) {
            store(q % 200);
        } else if (kind <= 6) {
            hang(q % 8, q / 8 % 3, q / 32 % 40);
        } else if (kind == 7) {
            fill(q % 8, 1 + q / 8 % 99);
        } else if (kind == 8) {
            int way = q / 16 % 2;
            set(way, way == 0 ? q % 13 : q % 2);
        } else if (kind == 9) {
            send(q % 6, q / 8 % 3);
        } else {
            hours(1 + q % 12);
        }
    }

    int save(int slot) {
        exists(in(slot, 0, 1));
        slots[slot] = state.copy();
        return state.time;
    }

    int restore(int slot) {
        exists(in(slot, 0, 1));
        possible(slots[slot] != null);
        state = slots[slot].copy();
        remembered.clear();
        return state.time;
    }
}
