/** Tunnel lamps that a lad moves forward as miners dig past them. */
public final class TunnelLamps {
    public static final int NONE = -1;

    private static final int MOST_GALLERIES = 3;
    private static final int MOST_MINERS = 6;
    private static final int MOST_LAMPS = 8;
    private static final int MOST_ORDERS = 6;
    private static final int MOST_CHARACTERS = 120;
    private static final int MOST_REMEMBERED = 14;
    private static final int MOST_STEPS_AN_HOUR = 12;
    private static final int MOST_DARK_TOLD = 999;
    private static final int MOST_HOURS = 60;
    private static final int MOST_TURNS = 60;
    private static final int MOST_BEST_HOURS = 100;
    private static final int DEEPEST = 60;
    private static final int FASTEST = 5;
    private static final int FARTHEST = 9;
    private static final int FULL_LAMP = 99;
    private static final int FULL_STORE = 9999;
    private static final int MOST_BROUGHT = 999;
    private static final int FAR_AHEAD = 200;
    private static final int SLOTS = 2;

    // Six orders of two ways each, a way of at most 59 steps to the mouth and 59 from it.
    private static final int STEPS_FOR_ALL_ORDERS = 2 * MOST_ORDERS * 2 * DEEPEST;

    private static final int NOTHING_AGAINST = 0;
    private static final int NO_SUCH = 1;
    private static final int OUT_OF_RANGE = 2;
    private static final int NOT_POSSIBLE = 3;

    private final MineText text = new MineText();
    private final Command command = new Command();
    private final Mine mine = new Mine();
    private final Mine fresh = new Mine();
    private final Mine copy = new Mine();
    private final History history = new History();
    private final Mine[] slots = new Mine[SLOTS];
    private final boolean[] slotIsUsed = new boolean[SLOTS];

    public TunnelLamps() {
        for (int i = 0; i < SLOTS; i++) {
            slots[i] = new Mine();
        }
    }

    // ---- text

    public int append(int c) throws IllegalArgumentException, IllegalStateException {
        demand(true, isWithin(c, 0, 255), !text.isFull());
        return text.add((char) c);
    }

    public int clearText() {
        return text.empty();
    }

    public int errorPosition() {
        return text.findError(command);
    }

    public int load() throws IllegalStateException {
        demand(true, true, text.findError(command) == NONE);
        mine.copyFrom(fresh);
        history.forgetAll();
        for (int slot = 0; slot < SLOTS; slot++) {
            slotIsUsed[slot] = false;
        }
        int leftOut = 0;
        text.startCommands();
        for (int i = 0; i < MOST_CHARACTERS && text.readCommand(command); i++) {
            if (!mine.attempt(command)) {
                leftOut++;
            }
        }
        return leftOut;
    }

    // ---- what there is

    public int about(int what) throws IllegalArgumentException {
        demand(true, isWithin(what, 0, 12), true);
        switch (what) {
            case 0: return mine.galleryCount;
            case 1: return mine.minerCount;
            case 2: return mine.lampCount;
            case 3: return mine.time;
            case 4: return mine.store;
            case 5: return mine.oilInLamps();
            case 6: return mine.lad.oil;
            case 7: return mine.burnt;
            case 8: return mine.spilled;
            case 9: return mine.came;
            case 10: return mine.lad.orderCount;
            case 11: return mine.darkHours;
            default: return mine.dug;
        }
    }

    public int galleryOf(int g, int what) throws IndexOutOfBoundsException, IllegalArgumentException {
        demand(mine.hasGallery(g), isWithin(what, 0, 5), true);
        Gallery gallery = mine.galleries[g];
        switch (what) {
            case 0: return gallery.depth;
            case 1: return gallery.strokes;
            case 2: return strokesFor(g, gallery.depth);
            case 3: return mine.isLit(g, gallery.depth) ? 1 : 0;
            case 4: return mine.minersIn(g);
            default: return mine.lampsIn(g);
        }
    }

    public int minerOf(int m, int what) throws IndexOutOfBoundsException, IllegalArgumentException {
        demand(mine.hasMiner(m), isWithin(what, 0, 3), true);
        Miner miner = mine.miners[m];
        switch (what) {
            case 0: return miner.gallery;
            case 1: return miner.pace;
            case 2: return miner.strokes;
            default: return miner.darkHours;
        }
    }

    public int lampOf(int l, int what) throws IndexOutOfBoundsException, IllegalArgumentException {
        demand(mine.hasLamp(l), isWithin(what, 0, 4), true);
        Lamp lamp = mine.lamps[l];
        switch (what) {
            case 0: return lamp.reach;
            case 1: return lamp.oil;
            case 2: return lamp.gallery;
            case 3: return lamp.cell;
            default: return lamp.oil > 0 ? 1 : 0;
        }
    }

    public int lad(int what) throws IllegalArgumentException {
        demand(true, isWithin(what, 0, 3), true);
        switch (what) {
            case 0: return mine.lad.gallery;
            case 1: return mine.lad.cell;
            case 2: return mine.lad.lamp;
            default:
                copy.copyFrom(mine);
                return copy.ladWorks(STEPS_FOR_ALL_ORDERS);
        }
    }

    public int orderOf(int k, int what) throws IndexOutOfBoundsException, IllegalArgumentException {
        demand(mine.lad.hasOrder(k), isWithin(what, 0, 3), true);
        Order order = mine.lad.orders[k];
        boolean isHang = order.kind == Order.HANG;
        switch (what) {
            case 0: return order.kind;
            case 1: return order.lamp;
            case 2: return isHang ? order.gallery : order.amount;
            default: return isHang ? order.cell : NONE;
        }
    }

    public int lit(int g, int way) throws IndexOutOfBoundsException, IllegalArgumentException {
        demand(mine.hasGallery(g), isWithin(way, 0, 1), true);
        return way == 0 ? mine.litCellByCell(g) : mine.litBySpans(g);
    }

    // ---- actions

    public int gallery(int d) throws IllegalArgumentException, IllegalStateException {
        return act(Command.GALLERY, d, 0, 0, 0);
    }

    public int miner(int g, int pace)
            throws IndexOutOfBoundsException, IllegalArgumentException, IllegalStateException {
        return act(Command.MINER, g, pace, 0, 0);
    }

    public int send(int m, int g) throws IndexOutOfBoundsException {
        return act(Command.SEND, m, g, 0, 0);
    }

    public int lamp(int g, int c, int reach, int oil)
            throws IndexOutOfBoundsException, IllegalArgumentException, IllegalStateException {
        return act(Command.LAMP, g, c, reach, oil);
    }

    public int store(int n) throws IllegalArgumentException, IllegalStateException {
        return act(Command.STORE, n, 0, 0, 0);
    }

    public int hang(int l, int g, int c) throws IndexOutOfBoundsException, IllegalStateException {
        return act(Command.HANG, l, g, c, 0);
    }

    public int fill(int l, int n)
            throws IndexOutOfBoundsException, IllegalArgumentException, IllegalStateException {
        return act(Command.FILL, l, n, 0, 0);
    }

    public int drop(int k) throws IndexOutOfBoundsException, IllegalStateException {
        return act(Command.DROP, k, 0, 0, 0);
    }

    public int set(int what, int v) throws IllegalArgumentException {
        return act(Command.SET, what, v, 0, 0);
    }

    public int hours(int n) throws IllegalArgumentException {
        return act(Command.HOURS, n, 0, 0, 0);
    }

    public int undo() throws IllegalStateException {
        demand(true, true, history.count > 0);
        history.takeBack(mine);
        return history.count;
    }

    // ---- what would be

    public int darkIn(int g) throws IndexOutOfBoundsException {
        demand(mine.hasGallery(g), true, true);
        copy.copyFrom(mine);
        for (int hour = 0; hour <= FAR_AHEAD; hour++) {
            if (!copy.isLit(g, copy.galleries[g].depth)) {
                return hour;
            }
            copy.letHoursGo(1);
        }
        return NONE;
    }

    public int depthIn(int g, int n) throws IndexOutOfBoundsException, IllegalArgumentException {
        demand(mine.hasGallery(g), isWithin(n, 1, FAR_AHEAD), true);
        copy.copyFrom(mine);
        copy.letHoursGo(n);
        return copy.galleries[g].depth;
    }

    public int doneIn() {
        copy.copyFrom(mine);
        copy.ladLooksAround = 0;
        for (int hour = 0; hour <= FAR_AHEAD; hour++) {
            if (copy.lad.orderCount == 0) {
                return hour;
            }
            copy.letHoursGo(1);
        }
        return NONE;
    }

    public int bestCell(int l, int g, int n)
            throws IndexOutOfBoundsException, IllegalArgumentException, IllegalStateException {
        demand(mine.hasLamp(l) && mine.hasGallery(g), isWithin(n, 1, MOST_BEST_HOURS),
                mine.lad.hasRoomForOrder());
        int best = NONE;
        int mostDug = 0;
        for (int c = 0; c < mine.galleries[g].depth; c++) {
            copy.copyFrom(mine);
            copy.lad.addHang(l, g, c);
            int dug = copy.letHoursGo(n);
            if (dug >= mostDug) {
                mostDug = dug;
                best = c;
            }
        }
        return best;
    }

    public int steps(int g, int c, int g2, int c2) throws IndexOutOfBoundsException {
        demand(mine.hasCell(g, c) && mine.hasCell(g2, c2), true, true);
        return g == g2 ? Math.abs(c - c2) : c + c2;
    }

    // ---- scripts, simulations

    public int runScript(int n, long script) throws IllegalArgumentException {
        demand(true, isWithin(n, 1, 3) && script >= 0 && script < numbersOf(n), true);
        copy.copyFrom(mine);
        for (int i = 0; i < n; i++) {
            int group = (int) (script / numbersOf(n - 1 - i) % 1000000);
            if (!command.readGroup(group)) {
                return i;
            }
            if (!(command.isTest() ? copy.passes(command) : copy.attempt(command))) {
                return i;
            }
        }
        return NONE;
    }

    public int simulate(long seed, int m) throws IllegalArgumentException {
        demand(true, isWithin(m, 1, MOST_TURNS), true);
        copy.copyFrom(mine);
        long x = seed;
        for (int turn = 0; turn < m; turn++) {
            x = x * 6364136223846793005L + 1442695040888963407L;
            command.readTurn((int) (x >>> 33));
            copy.attempt(command);
        }
        int darkHours = copy.darkHours - mine.darkHours;
        return 1000 * (copy.dug - mine.dug) + Math.min(darkHours, MOST_DARK_TOLD);
    }

    // ---- save slots

    public int save(int slot) throws IndexOutOfBoundsException {
        demand(isWithin(slot, 0, SLOTS - 1), true, true);
        slots[slot].copyFrom(mine);
        slotIsUsed[slot] = true;
        return mine.time;
    }

    public int restore(int slot) throws IndexOutOfBoundsException, IllegalStateException {
        boolean exists = isWithin(slot, 0, SLOTS - 1);
        demand(exists, true, exists && slotIsUsed[slot]);
        mine.copyFrom(slots[slot]);
        history.forgetAll();
        return mine.time;
    }

    // ---- what the calls have in common

    private int act(int action, int a, int b, int c, int d) {
        command.become(action, a, b, c, d);
        throwFor(mine.refusal(command));
        history.remember(mine);
        return mine.perform(command);
    }

    private static void demand(boolean exists, boolean isInRange, boolean isPossible) {
        throwFor(refusalOf(exists, isInRange, isPossible));
    }

    private static void throwFor(int refusal) {
        switch (refusal) {
            case NOTHING_AGAINST: return;
            case NO_SUCH: throw new IndexOutOfBoundsException("there is no such thing");
            case OUT_OF_RANGE: throw new IllegalArgumentException("an argument is out of its range");
            default: throw new IllegalStateException("this is not possible now");
        }
    }

    // The document names the exceptions of all its calls in this order.
    private static int refusalOf(boolean exists, boolean isInRange, boolean isPossible) {
        if (!exists) {
            return NO_SUCH;
        }
        if (!isInRange) {
            return OUT_OF_RANGE;
        }
        return isPossible ? NOTHING_AGAINST : NOT_POSSIBLE;
    }

    private static boolean isWithin(int number, int low, int high) {
        return number >= low && number <= high;
    }

    private static int strokesFor(int g, int c) {
        return 3 + (7 * c + 5 * g) % 6;
    }

    // How many numbers the digits of so many groups can tell.
    private static long numbersOf(int groups) {
        switch (groups) {
            case 0: return 1L;
            case 1: return 1000000L;
            case 2: return 1000000000000L;
            default: return 1000000000000000000L;
        }
    }

    /** What a call of an action, a part of a text, a group of a script or a turn asks for. */
    private static final class Command {
        static final int NO_COMMAND = 0;
        static final int GALLERY = 1;
        static final int MINER = 2;
        static final int SEND = 3;
        static final int LAMP = 4;
        static final int STORE = 5;
        static final int HANG = 6;
        static final int FILL = 7;
        static final int DROP = 8;
        static final int SET = 9;
        static final int HOURS = 10;
        static final int TEST_LIGHT = 11;
        static final int TEST_DEPTH = 12;
        static final int TEST_OIL = 13;
        static final int TEST_ORDERS = 14;

        int action;
        int a;
        int b;
        int c;
        int d;

        void become(int newAction, int first, int second, int third, int fourth) {
            action = newAction;
            a = first;
            b = second;
            c = third;
            d = fourth;
        }

        void putNumber(int index, int number) {
            switch (index) {
                case 0: a = number; break;
                case 1: b = number; break;
                case 2: c = number; break;
                default: d = number; break;
            }
        }

        boolean isTest() {
            return action >= TEST_LIGHT;
        }

        /** Answers whether the group is one that the document tells. */
        boolean readGroup(int group) {
            int d2 = group / 10000 % 10;
            int d3 = group / 1000 % 10;
            int d4d5 = group / 10 % 100;
            int d5d6 = group % 100;
            int d6 = group % 10;
            boolean thirdAndLastAreZero = d3 == 0 && d6 == 0;
            boolean middleIsZero = group / 100 % 100 == 0;
            switch (group / 100000) {
                case 1: become(HOURS, d5d6, 0, 0, 0); return d2 == 0 && middleIsZero;
                case 2: become(HANG, d2, d3, d4d5, 0); return d6 == 0;
                case 3: become(FILL, d2, d4d5, 0, 0); return thirdAndLastAreZero;
                case 4: become(SET, d2, d4d5, 0, 0); return thirdAndLastAreZero;
                case 5: become(SEND, d2, d3, 0, 0); return group % 1000 == 0;
                case 6: become(TEST_LIGHT, d2, d6, 0, 0); return d3 == 0 && d4d5 == 0 && d6 <= 1;
                case 7: become(TEST_DEPTH, d2, d5d6, 0, 0); return middleIsZero;
                case 8: become(TEST_OIL, d2, d5d6, 0, 0); return middleIsZero;
                case 9: become(TEST_ORDERS, d6, 0, 0, 0); return d2 == 0 && d3 == 0 && d4d5 == 0;
                default: return false;
            }
        }

        void readTurn(int r) {
            int q = r / 16;
            switch (r % 16) {
                case 0: become(GALLERY, 1 + q % 30, 0, 0, 0); break;
                case 1:
                case 2: become(MINER, q % 3, 1 + q / 4 % 5, 0, 0); break;
                case 3: become(LAMP, q % 3, q / 4 % 30, 1 + q / 128 % 9, q / 2048 % 100); break;
                case 4: become(STORE, q % 200, 0, 0, 0); break;
                case 5:
                case 6: become(HANG, q % 8, q / 8 % 3, q / 32 % 40, 0); break;
                case 7: become(FILL, q % 8, 1 + q / 8 % 99, 0, 0); break;
                case 8:
                    if (q / 16 % 2 == 0) {
                        become(SET, 0, q % 13, 0, 0);
                    } else {
                        become(SET, 1, q % 2, 0, 0);
                    }
                    break;
                case 9: become(SEND, q % 6, q / 8 % 3, 0, 0); break;
                default: become(HOURS, 1 + q % 12, 0, 0, 0); break;
            }
        }
    }

    /** The text buffer, and the reading of a mine from it. */
    private static final class MineText {
        final char[] characters = new char[MOST_CHARACTERS];
        int length;
        int position;

        boolean isFull() {
            return length >= MOST_CHARACTERS;
        }

        int add(char c) {
            if (length < characters.length) {
                characters[length] = c;
                length++;
            }
            return length;
        }

        int empty() {
            int previous = length;
            length = 0;
            return previous;
        }

        void startCommands() {
            position = 1;
        }

        int findError(Command scratch) {
            if (length == 0 || characters[0] != 'T') {
                return 0;
            }
            startCommands();
            boolean isAllowed = true;
            for (int i = 0; i < MOST_CHARACTERS && isAllowed; i++) {
                isAllowed = readCommand(scratch);
            }
            // A command that the end of the text cuts off stands at the end too.
            return scratch.action == Command.NO_COMMAND && position >= length ? NONE : position;
        }

        /** Answers whether there was one; if not, the position is where the reading stopped. */
        boolean readCommand(Command command) {
            command.become(Command.NO_COMMAND, 0, 0, 0, 0);
            if (position < 0 || position >= length) {
                return false;
            }
            command.action = actionOf(characters[position]);
            if (command.action == Command.NO_COMMAND) {
                return false;
            }
            position++;
            return readNumbers(command);
        }

        private static int actionOf(int letter) {
            switch (letter) {
                case 'g': return Command.GALLERY;
                case 'm': return Command.MINER;
                case 'l': return Command.LAMP;
                case 's': return Command.STORE;
                case 'h': return Command.HANG;
                case 'f': return Command.FILL;
                case 'a': return Command.SET;
                case 't': return Command.HOURS;
                default: return Command.NO_COMMAND;
            }
        }

        private boolean readNumbers(Command command) {
            switch (command.action) {
                case Command.GALLERY:
                    return readNumber(command, 0, 2, 1, DEEPEST);
                case Command.MINER:
                    return readGallery(command, 0) && readNumber(command, 1, 1, 1, FASTEST);
                case Command.LAMP:
                    return readGallery(command, 0) && readCell(command, 1)
                            && readNumber(command, 2, 1, 1, FARTHEST)
                            && readNumber(command, 3, 2, 0, FULL_LAMP);
                case Command.STORE:
                    return readNumber(command, 0, 3, 0, MOST_BROUGHT);
                case Command.HANG:
                    return readLamp(command) && readGallery(command, 1) && readCell(command, 2);
                case Command.FILL:
                    return readLamp(command) && readNumber(command, 1, 2, 1, FULL_LAMP);
                case Command.SET:
                    command.a = 1;
                    return readNumber(command, 1, 1, 0, 1);
                default:
                    return readNumber(command, 0, 2, 1, MOST_HOURS);
            }
        }

        private boolean readGallery(Command command, int index) {
            return readNumber(command, index, 1, 0, MOST_GALLERIES - 1);
        }

        private boolean readCell(Command command, int index) {
            return readNumber(command, index, 2, 0, DEEPEST - 1);
        }

        private boolean readLamp(Command command) {
            return readNumber(command, 0, 1, 0, MOST_LAMPS - 1);
        }

        private boolean readNumber(Command command, int index, int width, int low, int high) {
            int endings = width == 3 ? 100 : width == 2 ? 10 : 1;
            int number = 0;
            for (int i = 0; i < width; i++) {
                if (position < 0 || position >= length) {
                    return false;
                }
                int digit = characters[position] - '0';
                number = number * 10 + digit;
                int least = number * endings;
                if (!isWithin(digit, 0, 9) || least > high || least + endings - 1 < low) {
                    return false;
                }
                endings /= 10;
                position++;
            }
            command.putNumber(index, number);
            return true;
        }
    }

    /** The states that can be taken back, in a ring, so that the oldest is forgotten first. */
    private static final class History {
        final Mine[] states = new Mine[MOST_REMEMBERED];
        int oldest;
        int count;

        History() {
            for (int i = 0; i < MOST_REMEMBERED; i++) {
                states[i] = new Mine();
            }
        }

        void remember(Mine mine) {
            if (count == MOST_REMEMBERED) {
                oldest = (oldest + 1) % MOST_REMEMBERED;
                count--;
            }
            states[(oldest + count) % MOST_REMEMBERED].copyFrom(mine);
            count++;
        }

        void takeBack(Mine mine) {
            if (count > 0) {
                count--;
                mine.copyFrom(states[(oldest + count) % MOST_REMEMBERED]);
            }
        }

        void forgetAll() {
            oldest = 0;
            count = 0;
        }
    }

    private static final class Gallery {
        int depth;
        int strokes;

        void copyFrom(Gallery other) {
            depth = other.depth;
            strokes = other.strokes;
        }

        /** Answers how many cells are dug. */
        int strike(int number, int newStrokes) {
            int before = depth;
            strokes += newStrokes;
            while (depth < DEEPEST && strokes >= strokesFor(number, depth)) {
                strokes -= strokesFor(number, depth);
                depth++;
            }
            return depth - before;
        }
    }

    private static final class Miner {
        int gallery;
        int pace;
        int strokes;
        int darkHours;

        void copyFrom(Miner other) {
            gallery = other.gallery;
            pace = other.pace;
            strokes = other.strokes;
            darkHours = other.darkHours;
        }
    }

    /** A lamp that is carried has NONE as its gallery and cell, so that it lights nothing. */
    private static final class Lamp {
        int gallery;
        int cell;
        int reach;
        int oil;

        void copyFrom(Lamp other) {
            gallery = other.gallery;
            cell = other.cell;
            reach = other.reach;
            oil = other.oil;
        }

        boolean lights(int g, int c) {
            return burnsIn(g) && c - cell <= reach && cell - c <= reach;
        }

        boolean burnsIn(int g) {
            return gallery == g && oil > 0;
        }
    }

    private static final class Order {
        static final int HANG = 0;
        static final int FILL = 1;

        int kind;
        int lamp;
        int gallery;
        int cell;
        int amount;

        void copyFrom(Order other) {
            kind = other.kind;
            lamp = other.lamp;
            gallery = other.gallery;
            cell = other.cell;
            amount = other.amount;
        }
    }

    private static final class Lad {
        final Order[] orders = new Order[MOST_ORDERS];
        int orderCount;
        int gallery;
        int cell;
        int lamp = NONE;
        int oil;

        // Apart from the oil: out of an empty store he fetches none, and goes on to the lamp all the same.
        boolean hasFetched;

        Lad() {
            for (int k = 0; k < MOST_ORDERS; k++) {
                orders[k] = new Order();
            }
        }

        void copyFrom(Lad other) {
            for (int k = 0; k < MOST_ORDERS; k++) {
                orders[k].copyFrom(other.orders[k]);
            }
            orderCount = other.orderCount;
            gallery = other.gallery;
            cell = other.cell;
            lamp = other.lamp;
            oil = other.oil;
            hasFetched = other.hasFetched;
        }

        boolean hasOrder(int k) {
            return k >= 0 && k < orderCount;
        }

        boolean hasRoomForOrder() {
            return orderCount < MOST_ORDERS;
        }

        int addHang(int l, int g, int c) {
            return addOrder(Order.HANG, l, g, c, 0);
        }

        int addFill(int l, int n) {
            return addOrder(Order.FILL, l, NONE, NONE, n);
        }

        private int addOrder(int kind, int l, int g, int c, int n) {
            if (hasRoomForOrder()) {
                Order order = orders[orderCount];
                order.kind = kind;
                order.lamp = l;
                order.gallery = g;
                order.cell = c;
                order.amount = n;
                orderCount++;
            }
            return orderCount;
        }

        int removeOrder(int k) {
            if (k >= 0 && k < orderCount) {
                Order removed = orders[k];
                for (int i = k + 1; i < orderCount; i++) {
                    orders[i - 1] = orders[i];
                }
                orderCount--;
                orders[orderCount] = removed;
                hasFetched = hasFetched && k > 0;
            }
            return orderCount;
        }

        boolean handsAreFree() {
            return lamp == NONE && oil == 0;
        }

        // The cells 0 of all galleries are one place.
        boolean isAt(int g, int c) {
            return cell == c && (c == 0 || gallery == g);
        }

        void stepTowards(int g, int c) {
            if (gallery != g && cell == 0 && c > 0) {
                gallery = g;
                cell = 1;
            } else if (gallery == g && cell < c) {
                cell++;
            } else if (cell > 0) {
                cell--;
            }
        }
    }

    /** The state, and what becomes of it. */
    private static final class Mine {
        final Gallery[] galleries = new Gallery[MOST_GALLERIES];
        final Miner[] miners = new Miner[MOST_MINERS];
        final Lamp[] lamps = new Lamp[MOST_LAMPS];
        final Lad lad = new Lad();
        int galleryCount;
        int minerCount;
        int lampCount;
        int time;
        int store;
        int burnt;
        int spilled;
        int came;
        int darkHours;
        int dug;
        int stepsAnHour = 4;
        int ladLooksAround;

        Mine() {
            for (int g = 0; g < MOST_GALLERIES; g++) {
                galleries[g] = new Gallery();
            }
            for (int m = 0; m < MOST_MINERS; m++) {
                miners[m] = new Miner();
            }
            for (int l = 0; l < MOST_LAMPS; l++) {
                lamps[l] = new Lamp();
            }
        }

        void copyFrom(Mine other) {
            for (int g = 0; g < MOST_GALLERIES; g++) {
                galleries[g].copyFrom(other.galleries[g]);
            }
            for (int m = 0; m < MOST_MINERS; m++) {
                miners[m].copyFrom(other.miners[m]);
            }
            for (int l = 0; l < MOST_LAMPS; l++) {
                lamps[l].copyFrom(other.lamps[l]);
            }
            lad.copyFrom(other.lad);
            galleryCount = other.galleryCount;
            minerCount = other.minerCount;
            lampCount = other.lampCount;
            time = other.time;
            store = other.store;
            burnt = other.burnt;
            spilled = other.spilled;
            came = other.came;
            darkHours = other.darkHours;
            dug = other.dug;
            stepsAnHour = other.stepsAnHour;
            ladLooksAround = other.ladLooksAround;
        }

        boolean hasGallery(int g) {
            return g >= 0 && g < galleryCount;
        }

        boolean hasCell(int g, int c) {
            return hasGallery(g) && c >= 0 && c < galleries[g].depth;
        }

        boolean hasMiner(int m) {
            return m >= 0 && m < minerCount;
        }

        boolean hasLamp(int l) {
            return l >= 0 && l < lampCount;
        }

        int oilInLamps() {
            int oil = 0;
            for (int l = 0; l < lampCount; l++) {
                oil += lamps[l].oil;
            }
            return oil;
        }

        int minersIn(int g) {
            int count = 0;
            for (int m = 0; m < minerCount; m++) {
                if (miners[m].gallery == g) {
                    count++;
                }
            }
            return count;
        }

        int lampsIn(int g) {
            int count = 0;
            for (int l = 0; l < lampCount; l++) {
                if (lamps[l].gallery == g) {
                    count++;
                }
            }
            return count;
        }

        boolean isLit(int g, int c) {
            for (int l = 0; l < lampCount; l++) {
                if (lamps[l].lights(g, c)) {
                    return true;
                }
            }
            return false;
        }

        int litCellByCell(int g) {
            int depth = hasGallery(g) ? galleries[g].depth : 0;
            int count = 0;
            for (int c = 0; c < depth; c++) {
                if (isLit(g, c)) {
                    count++;
                }
            }
            return count;
        }

        int litBySpans(int g) {
            int depth = hasGallery(g) ? galleries[g].depth : 0;
            int count = 0;
            int next = 0;
            // Each round uses up the span of one lamp at least.
            for (int round = 0; round < lampCount; round++) {
                int start = depth;
                int end = depth;
                for (int l = 0; l < lampCount; l++) {
                    int from = Math.max(next, lamps[l].cell - lamps[l].reach);
                    int to = Math.min(depth, lamps[l].cell + lamps[l].reach + 1);
                    if (lamps[l].burnsIn(g) && from < to && from < start) {
                        start = from;
                        end = to;
                    }
                }
                count += end - start;
                next = end;
            }
            return count;
        }

        /** Answers whether the command could be done. */
        boolean attempt(Command command) {
            if (refusal(command) != NOTHING_AGAINST) {
                return false;
            }
            perform(command);
            return true;
        }

        int refusal(Command x) {
            switch (x.action) {
                case Command.GALLERY:
                    return refusalOf(true, isWithin(x.a, 1, DEEPEST), galleryCount < MOST_GALLERIES);
                case Command.MINER:
                    return refusalOf(hasGallery(x.a), isWithin(x.b, 1, FASTEST), minerCount < MOST_MINERS);
                case Command.SEND:
                    return refusalOf(hasMiner(x.a) && hasGallery(x.b), true, true);
                case Command.LAMP:
                    return refusalOf(hasCell(x.a, x.b),
                            isWithin(x.c, 1, FARTHEST) && isWithin(x.d, 0, FULL_LAMP),
                            lampCount < MOST_LAMPS);
                case Command.STORE:
                    return refusalOf(true, isWithin(x.a, 0, MOST_BROUGHT), x.a <= FULL_STORE - store);
                case Command.HANG:
                    return refusalOf(hasLamp(x.a) && hasCell(x.b, x.c), true, lad.hasRoomForOrder());
                case Command.FILL:
                    return refusalOf(hasLamp(x.a), isWithin(x.b, 1, FULL_LAMP), lad.hasRoomForOrder());
                case Command.DROP:
                    return refusalOf(lad.hasOrder(x.a), true, x.a != 0 || lad.handsAreFree());
                case Command.SET:
                    return refusalOf(true, isSetting(x.a, x.b), true);
                default:
                    return refusalOf(true, isWithin(x.a, 1, MOST_HOURS), true);
            }
        }

        private static boolean isSetting(int what, int v) {
            return (what == 0 && isWithin(v, 0, MOST_STEPS_AN_HOUR)) || (what == 1 && isWithin(v, 0, 1));
        }

        /** Does a command that nothing speaks against. */
        int perform(Command x) {
            switch (x.action) {
                case Command.GALLERY: return addGallery(x.a);
                case Command.MINER: return addMiner(x.a, x.b);
                case Command.SEND: return sendMiner(x.a, x.b);
                case Command.LAMP: return addLamp(x.a, x.b, x.c, x.d);
                case Command.STORE: return bringOil(x.a);
                case Command.HANG: return lad.addHang(x.a, x.b, x.c);
                case Command.FILL: return lad.addFill(x.a, x.b);
                case Command.DROP: return lad.removeOrder(x.a);
                case Command.SET: return changeSetting(x.a, x.b);
                default: return letHoursGo(x.a);
            }
        }

        private int addGallery(int d) {
            if (galleryCount >= MOST_GALLERIES) {
                return NONE;
            }
            Gallery gallery = galleries[galleryCount];
            gallery.depth = d;
            gallery.strokes = 0;
            galleryCount++;
            return galleryCount - 1;
        }

        private int addMiner(int g, int pace) {
            if (minerCount >= MOST_MINERS) {
                return NONE;
            }
            Miner miner = miners[minerCount];
            miner.gallery = g;
            miner.pace = pace;
            miner.strokes = 0;
            miner.darkHours = 0;
            minerCount++;
            return minerCount - 1;
        }

        private int sendMiner(int m, int g) {
            if (!hasMiner(m)) {
                return NONE;
            }
            int previous = miners[m].gallery;
            miners[m].gallery = g;
            return previous;
        }

        private int addLamp(int g, int c, int reach, int oil) {
            if (lampCount >= MOST_LAMPS) {
                return NONE;
            }
            Lamp lamp = lamps[lampCount];
            lamp.gallery = g;
            lamp.cell = c;
            lamp.reach = reach;
            lamp.oil = oil;
            came += oil;
            lampCount++;
            return lampCount - 1;
        }

        private int bringOil(int n) {
            store += n;
            came += n;
            return store;
        }

        private int changeSetting(int what, int v) {
            int previous = what == 0 ? stepsAnHour : ladLooksAround;
            if (what == 0) {
                stepsAnHour = v;
            } else {
                ladLooksAround = v;
            }
            return previous;
        }

        /** Answers whether what the command tests is so. */
        boolean passes(Command x) {
            switch (x.action) {
                case Command.TEST_LIGHT:
                    return hasGallery(x.a) && isLit(x.a, galleries[x.a].depth) == (x.b == 1);
                case Command.TEST_DEPTH: return hasGallery(x.a) && galleries[x.a].depth >= x.b;
                case Command.TEST_OIL: return hasLamp(x.a) && lamps[x.a].oil >= x.b;
                default: return lad.orderCount <= x.a;
            }
        }

        /** Answers how many cells are dug. */
        int letHoursGo(int n) {
            int before = dug;
            for (int hour = 0; hour < n; hour++) {
                time++;
                minersWork();
                lampsBurn();
                ladWorks(stepsAnHour);
                if (ladLooksAround == 1 && lad.orderCount == 0) {
                    ladSeesTheDark();
                }
            }
            return dug - before;
        }

        private void minersWork() {
            for (int m = 0; m < minerCount; m++) {
                Miner miner = miners[m];
                int g = miner.gallery;
                if (hasGallery(g) && galleries[g].depth < DEEPEST) {
                    if (isLit(g, galleries[g].depth)) {
                        miner.strokes += miner.pace;
                        dug += galleries[g].strike(g, miner.pace);
                    } else {
                        miner.darkHours++;
                        darkHours++;
                    }
                }
            }
        }

        private void lampsBurn() {
            for (int l = 0; l < lampCount; l++) {
                if (lamps[l].oil > 0) {
                    lamps[l].oil--;
                    burnt++;
                }
            }
        }

        /** Answers how many steps he makes, of those that he may. */
        int ladWorks(int mostSteps) {
            int steps = 0;
            // A round is a step or one of the two things that an order asks for, but for the last one.
            for (int i = 0; i <= mostSteps + 2 * MOST_ORDERS && lad.orderCount > 0; i++) {
                if (!doesWhatNeedsNoStep()) {
                    if (steps == mostSteps) {
                        return steps;
                    }
                    makesStep();
                    steps++;
                }
            }
            return steps;
        }

        private boolean doesWhatNeedsNoStep() {
            Order order = lad.orders[0];
            if (lad.orderCount == 0 || !hasLamp(order.lamp)) {
                return false;
            }
            Lamp lamp = lamps[order.lamp];
            if (order.kind == Order.HANG) {
                return lad.lamp == NONE ? takesLamp(order, lamp) : hangsLamp(order, lamp);
            }
            return lad.hasFetched ? poursOil(lamp) : fetchesOil(order);
        }

        private boolean takesLamp(Order order, Lamp lamp) {
            if (!lad.isAt(lamp.gallery, lamp.cell)) {
                return false;
            }
            lad.gallery = lamp.gallery;
            lad.lamp = order.lamp;
            lamp.gallery = NONE;
            lamp.cell = NONE;
            return true;
        }

        private boolean hangsLamp(Order order, Lamp lamp) {
            if (!lad.isAt(order.gallery, order.cell)) {
                return false;
            }
            lad.gallery = order.gallery;
            lad.lamp = NONE;
            lamp.gallery = order.gallery;
            lamp.cell = order.cell;
            lad.removeOrder(0);
            return true;
        }

        private boolean fetchesOil(Order order) {
            if (lad.cell != 0) {
                return false;
            }
            lad.oil = Math.min(order.amount, store);
            lad.hasFetched = true;
            store -= lad.oil;
            return true;
        }

        private boolean poursOil(Lamp lamp) {
            if (!lad.isAt(lamp.gallery, lamp.cell)) {
                return false;
            }
            int poured = Math.min(lad.oil, FULL_LAMP - lamp.oil);
            lad.gallery = lamp.gallery;
            lamp.oil += poured;
            spilled += lad.oil - poured;
            lad.oil = 0;
            lad.removeOrder(0);
            return true;
        }

        private void makesStep() {
            Order order = lad.orders[0];
            if (order.kind == Order.FILL && !lad.hasFetched) {
                lad.stepTowards(lad.gallery, 0);
            } else if (order.kind == Order.HANG && lad.lamp != NONE) {
                lad.stepTowards(order.gallery, order.cell);
            } else if (hasLamp(order.lamp)) {
                lad.stepTowards(lamps[order.lamp].gallery, lamps[order.lamp].cell);
            }
        }

        private void ladSeesTheDark() {
            for (int g = 0; g < galleryCount; g++) {
                int depth = galleries[g].depth;
                if (depth > 1 && depth < DEEPEST && minersIn(g) > 0 && !isLit(g, depth)) {
                    int l = fullestLampBelow(g, depth - 1);
                    if (l != NONE) {
                        lad.addHang(l, g, depth - 1);
                        return;
                    }
                }
            }
        }

        private int fullestLampBelow(int g, int c) {
            int fullest = NONE;
            int mostOil = 0;
            for (int l = 0; l < lampCount; l++) {
                if (lamps[l].burnsIn(g) && lamps[l].cell < c && lamps[l].oil > mostOil) {
                    fullest = l;
                    mostOil = lamps[l].oil;
                }
            }
            return fullest;
        }
    }
}
