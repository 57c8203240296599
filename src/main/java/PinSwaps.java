import java.util.Arrays;

/**
 * Nets of pins that may change places within groups, so that all ways to their targets are least.
 *
 * <p>All rows are made with the object and used again: no call makes an object, but for the
 * exception that it throws.
 */
public final class PinSwaps {
    public static final int NONE = -1;

    private static final int GROUP_LIMIT = 12;
    private static final int GROUP_PIN_LIMIT = 12;
    private static final int PIN_LIMIT = 80;
    private static final int NET_LIMIT = 200;
    private static final int BANK_LIMIT = 16;
    private static final int GATE_LIMIT = 20;
    private static final int INPUT_LIMIT = 4;
    private static final int UNDO_LIMIT = 10;
    private static final long FARTHEST = 1_000_000L;
    private static final long WRONG_BANK = 1_000_000_000L;

    private final Pins pins;
    private final Nets nets;
    private final Matching matching;
    private final History history;
    private final Gates gates;
    private long sumBefore;

    public PinSwaps() {
        pins = new Pins();
        nets = new Nets();
        matching = new Matching();
        history = new History();
        gates = new Gates();
    }

    public int group() {
        if (pins.groups >= GROUP_LIMIT) {
            return NONE;
        }
        pins.groups++;
        return pins.groups - 1;
    }

    public int pin(int group, long x, long y, int net)
            throws IndexOutOfBoundsException, IllegalArgumentException {
        if (group < 0 || group >= pins.groups) {
            throw new IndexOutOfBoundsException("no such group");
        }
        checkPlace(x, y);
        if (!isNet(net)) {
            throw new IllegalArgumentException("no net");
        }
        if (pins.count >= PIN_LIMIT || pins.inGroup[group] >= GROUP_PIN_LIMIT) {
            return NONE;
        }
        return pins.add(group, x, y, net);
    }

    public boolean target(int net, long x, long y)
            throws IndexOutOfBoundsException, IllegalArgumentException {
        checkNet(net);
        checkPlace(x, y);
        return nets.aim(net, x, y);
    }

    public boolean lock(int pin) throws IndexOutOfBoundsException {
        checkPin(pin);
        boolean was = pins.locked[pin];
        pins.locked[pin] = true;
        return !was;
    }

    public boolean pair(int pinA, int pinB) throws IndexOutOfBoundsException {
        checkPin(pinA);
        checkPin(pinB);
        if (pinA == pinB || pins.group[pinA] != pins.group[pinB]) {
            return false;
        }
        if (pins.isPaired(pinA) || pins.isPaired(pinB)) {
            return false;
        }
        pins.join(pinA, pinB);
        return true;
    }

    public boolean bank(int pin, int b) throws IndexOutOfBoundsException, IllegalArgumentException {
        checkPin(pin);
        if (b < 0 || b >= BANK_LIMIT) {
            throw new IllegalArgumentException("no bank");
        }
        boolean another = pins.bank[pin] != b;
        pins.bank[pin] = b;
        return another;
    }

    public boolean needs(int net, int b) throws IndexOutOfBoundsException, IllegalArgumentException {
        checkNet(net);
        if (b < NONE || b >= BANK_LIMIT) {
            throw new IllegalArgumentException("neither a bank nor NONE");
        }
        boolean another = nets.neededBank[net] != b;
        nets.neededBank[net] = b;
        return another;
    }

    public int run() {
        sumBefore = sum();
        int[] old = history.begin(pins.net, pins.count);
        for (int group = 0; group < pins.groups; group++) {
            swapUnits(group, false, old);
            swapUnits(group, true, old);
        }
        int changed = countChanged(old);
        if (changed > 0) {
            history.keep();
        }
        return changed;
    }

    public int netOf(int pin) throws IndexOutOfBoundsException {
        checkPin(pin);
        return pins.net[pin];
    }

    public long sum() {
        long total = 0;
        for (int pin = 0; pin < pins.count; pin++) {
            total += cost(pins.net[pin], pin);
        }
        return total;
    }

    public long before() {
        return sumBefore;
    }

    public long dual(int side, int k) throws IndexOutOfBoundsException {
        checkPin(k);
        if (side != 0 && side != 1) {
            throw new IndexOutOfBoundsException("no such side");
        }
        int unit = pins.unitOf(k);
        if (pins.isUnitLocked(unit)) {
            return NONE;
        }
        loadMatching(pins.group[unit], pins.isPaired(unit));
        if (side == 1 && matching.size < 2) {
            return NONE;
        }
        long least = matching.solve();
        if (side == 0) {
            matching.forbidOthers(unit);
        } else {
            matching.forbidOwn(unit);
        }
        return matching.solve() - least;
    }

    public int note(int k, int what) throws IndexOutOfBoundsException {
        int pin = pins.nthMoved(k);
        if (pin == NONE || what < 0 || what > 2) {
            throw new IndexOutOfBoundsException("no such note");
        }
        if (what == 0) {
            return pin;
        }
        return what == 1 ? pins.toldNet[pin] : pins.net[pin];
    }

    public int gate(int pins) throws IllegalArgumentException {
        int inputs = pins >> 16;
        int table = pins & 0xFFFF;
        if (inputs < 1 || inputs > INPUT_LIMIT) {
            throw new IllegalArgumentException("not 1 to 4 inputs");
        }
        if (table >> (1 << inputs) != 0) {
            throw new IllegalArgumentException("too many bits in the table");
        }
        return gates.add(inputs, table);
    }

    public boolean equalGate(int a, int b) throws IndexOutOfBoundsException {
        if (a < 0 || a >= gates.count || b < 0 || b >= gates.count) {
            throw new IndexOutOfBoundsException("no such gate");
        }
        return gates.areEqual(a, b);
    }

    public boolean undo() {
        return history.restore(pins.net);
    }

    public int crossings() {
        int found = 0;
        for (int a = 0; a < pins.count; a++) {
            for (int b = a + 1; b < pins.count; b++) {
                if (pins.group[a] == pins.group[b] && waysCross(a, b)) {
                    found++;
                }
            }
        }
        return found;
    }

    private void checkPin(int pin) {
        if (pin < 0 || pin >= pins.count) {
            throw new IndexOutOfBoundsException("no such pin");
        }
    }

    private static void checkNet(int net) {
        if (!isNet(net)) {
            throw new IndexOutOfBoundsException("no net");
        }
    }

    private static void checkPlace(long x, long y) {
        if (x < -FARTHEST || x > FARTHEST || y < -FARTHEST || y > FARTHEST) {
            throw new IllegalArgumentException("no place");
        }
    }

    private static boolean isNet(int net) {
        return net >= 0 && net < NET_LIMIT;
    }

    private long cost(int net, int pin) {
        long way = 0;
        if (nets.aimed[net]) {
            way = Math.abs(nets.x[net] - pins.x[pin]) + Math.abs(nets.y[net] - pins.y[pin]);
        }
        int needed = nets.neededBank[net];
        return needed == NONE || needed == pins.bank[pin] ? way : way + WRONG_BANK;
    }

    /** Lets the units of one kind (pins, or pairs) of a group change their nets. */
    private void swapUnits(int group, boolean pairs, int[] old) {
        loadMatching(group, pairs);
        if (matching.solve() == matching.sumIfKept()) {
            return;
        }
        matching.settleTies();
        for (int giver = 1; giver <= matching.size; giver++) {
            giveNets(matching.unit[matching.rowOf[giver]], matching.unit[giver], old);
        }
    }

    private void giveNets(int taker, int giver, int[] old) {
        pins.net[taker] = old[giver];
        if (pins.isPaired(taker) && pins.isPaired(giver)) {
            pins.net[pins.partner[taker]] = old[pins.partner[giver]];
        }
    }

    private int countChanged(int[] old) {
        int changed = 0;
        for (int pin = 0; pin < pins.count; pin++) {
            if (pins.net[pin] != old[pin]) {
                changed++;
            }
        }
        return changed;
    }

    private void loadMatching(int group, boolean pairs) {
        matching.size = 0;
        for (int pin = 0; pin < pins.count; pin++) {
            if (pins.group[pin] == group && pins.isFreeUnit(pin, pairs)) {
                matching.add(pin);
            }
        }
        for (int row = 1; row <= matching.size; row++) {
            for (int col = 1; col <= matching.size; col++) {
                matching.cost[row][col] = unitCost(matching.unit[row], matching.unit[col]);
            }
        }
    }

    /** What the nets of the giver cost on the taker, a unit of the same kind. */
    private long unitCost(int taker, int giver) {
        long whole = cost(pins.net[giver], taker);
        if (pins.isPaired(taker) && pins.isPaired(giver)) {
            whole += cost(pins.net[pins.partner[giver]], pins.partner[taker]);
        }
        return whole;
    }

    private boolean waysCross(int a, int b) {
        if (!nets.aimed[pins.net[a]] || !nets.aimed[pins.net[b]]) {
            return false;
        }
        return partsEnds(a, b) && partsEnds(b, a);
    }

    /** Whether the line of one pin's way has the ends of another's on its two sides, none on it. */
    private boolean partsEnds(int pin, int other) {
        int net = pins.net[other];
        long start = sideOfWay(pin, pins.x[other], pins.y[other]);
        long end = sideOfWay(pin, nets.x[net], nets.y[net]);
        return (start < 0 && end > 0) || (start > 0 && end < 0);
    }

    /** Below, above or just 0, as a place lies right of, left of or on the line of a pin's way. */
    private long sideOfWay(int pin, long x, long y) {
        int net = pins.net[pin];
        long alongX = nets.x[net] - pins.x[pin];
        long alongY = nets.y[net] - pins.y[pin];
        return alongX * (y - pins.y[pin]) - alongY * (x - pins.x[pin]);
    }

    /** The pins of all groups, and which of them are pairs. */
    private static final class Pins {
        private int groups;
        private int count;
        private final int[] inGroup = new int[GROUP_LIMIT];
        private final int[] group = new int[PIN_LIMIT];
        private final long[] x = new long[PIN_LIMIT];
        private final long[] y = new long[PIN_LIMIT];
        private final int[] bank = new int[PIN_LIMIT];
        private final int[] net = new int[PIN_LIMIT];
        private final int[] toldNet = new int[PIN_LIMIT];
        private final int[] partner = new int[PIN_LIMIT];
        private final boolean[] second = new boolean[PIN_LIMIT];
        private final boolean[] locked = new boolean[PIN_LIMIT];

        private int add(int ofGroup, long atX, long atY, int withNet) {
            int pin = count;
            count++;
            inGroup[ofGroup]++;
            group[pin] = ofGroup;
            x[pin] = atX;
            y[pin] = atY;
            net[pin] = withNet;
            toldNet[pin] = withNet;
            partner[pin] = NONE;
            return pin;
        }

        private void join(int firstPin, int secondPin) {
            partner[firstPin] = secondPin;
            partner[secondPin] = firstPin;
            second[secondPin] = true;
        }

        private boolean isPaired(int pin) {
            return partner[pin] != NONE;
        }

        private int unitOf(int pin) {
            return second[pin] ? partner[pin] : pin;
        }

        private boolean isUnitLocked(int unit) {
            return locked[unit] || (isPaired(unit) && locked[partner[unit]]);
        }

        /** Whether a pin is the number of a unit of this kind that may change its nets. */
        private boolean isFreeUnit(int pin, boolean pairs) {
            return !second[pin] && isPaired(pin) == pairs && !isUnitLocked(pin);
        }

        /** The n-th pin, rising, whose net is not the one that it was told with; or NONE. */
        private int nthMoved(int n) {
            int seen = 0;
            for (int pin = 0; pin < count; pin++) {
                if (net[pin] != toldNet[pin]) {
                    if (seen == n) {
                        return pin;
                    }
                    seen++;
                }
            }
            return NONE;
        }
    }

    /** What is told of nets: their targets and the banks that they need. */
    private static final class Nets {
        private final boolean[] aimed = new boolean[NET_LIMIT];
        private final long[] x = new long[NET_LIMIT];
        private final long[] y = new long[NET_LIMIT];
        private final int[] neededBank = new int[NET_LIMIT];

        private Nets() {
            Arrays.fill(neededBank, NONE);
        }

        /** Sets the target of a net: whether it is another one, or the first. */
        private boolean aim(int net, long atX, long atY) {
            boolean another = !aimed[net] || x[net] != atX || y[net] != atY;
            aimed[net] = true;
            x[net] = atX;
            y[net] = atY;
            return another;
        }
    }

    /**
     * The least matching of units that take nets (rows) with units that give them (columns), by the
     * Hungarian method. Rows and columns count from 1: column 0 stands for where a search begins,
     * and row 0 for no row.
     */
    private static final class Matching {
        private static final int ROOM = GROUP_PIN_LIMIT + 1;
        /** More than any SUM, so that what is forbidden is taken only where nothing else is left. */
        private static final long FORBIDDEN = 1_000_000_000_000L;
        private static final long ENDLESS = 1L << 60;

        private int size;
        private final int[] unit = new int[ROOM];
        private final long[][] cost = new long[ROOM][ROOM];
        private final long[] rowPrice = new long[ROOM];
        private final long[] colPrice = new long[ROOM];
        private final int[] rowOf = new int[ROOM];
        private final int[] cameFrom = new int[ROOM];
        private final long[] slack = new long[ROOM];
        private final boolean[] seen = new boolean[ROOM];
        private final int[] queue = new int[ROOM];

        private void add(int number) {
            if (size < GROUP_PIN_LIMIT) {
                size++;
                unit[size] = number;
            }
        }

        private void forbidOwn(int number) {
            int row = rowOfUnit(number);
            cost[row][row] = FORBIDDEN;
        }

        private void forbidOthers(int number) {
            int row = rowOfUnit(number);
            for (int col = 1; col <= size; col++) {
                if (col != row) {
                    cost[row][col] = FORBIDDEN;
                }
            }
        }

        private int rowOfUnit(int number) {
            for (int row = 1; row <= size; row++) {
                if (unit[row] == number) {
                    return row;
                }
            }
            return 0;
        }

        private long sumIfKept() {
            long total = 0;
            for (int row = 1; row <= size; row++) {
                total += cost[row][row];
            }
            return total;
        }

        /** Finds a least matching: its sum. */
        private long solve() {
            Arrays.fill(rowPrice, 0);
            Arrays.fill(colPrice, 0);
            Arrays.fill(rowOf, 0);
            for (int row = 1; row <= size; row++) {
                insert(row);
            }
            long total = 0;
            for (int col = 1; col <= size; col++) {
                total += cost[rowOf[col]][col];
            }
            return total;
        }

        /** Gives a new row its column, by the cheapest chain of rows that move on to a free one. */
        private void insert(int row) {
            rowOf[0] = row;
            forgetSeen();
            Arrays.fill(slack, ENDLESS);
            int col = 0;
            for (int step = 0; step < size && rowOf[col] != 0; step++) {
                col = nextColumn(col);
            }
            moveAlong(col);
        }

        private void forgetSeen() {
            for (int col = 0; col <= size; col++) {
                seen[col] = false;
            }
        }

        /** The unseen column that is cheapest to reach once this one is seen, too. */
        private int nextColumn(int from) {
            seen[from] = true;
            int row = rowOf[from];
            int nearest = 0;
            for (int col = 1; col <= size; col++) {
                if (!seen[col]) {
                    long more = extraCost(row, col);
                    if (more < slack[col]) {
                        slack[col] = more;
                        cameFrom[col] = from;
                    }
                    if (nearest == 0 || slack[col] < slack[nearest]) {
                        nearest = col;
                    }
                }
            }
            changePrices(slack[nearest]);
            return nearest;
        }

        private void changePrices(long step) {
            for (int col = 0; col <= size; col++) {
                if (seen[col]) {
                    rowPrice[rowOf[col]] += step;
                    colPrice[col] -= step;
                } else {
                    slack[col] -= step;
                }
            }
        }

        /** By how much a row's taking a column exceeds their prices: 0 in every least matching. */
        private long extraCost(int row, int col) {
            return cost[row][col] - rowPrice[row] - colPrice[col];
        }

        /** Moves the rows along the chain that ends at a column, each one column on. */
        private void moveAlong(int end) {
            int col = end;
            for (int step = 0; step < size && col != 0; step++) {
                rowOf[col] = rowOf[cameFrom[col]];
                col = cameFrom[col];
            }
        }

        /** Of all least matchings makes it the one that the document wants, row after row. */
        private void settleTies() {
            for (int row = 1; row <= size; row++) {
                boolean settled = takes(row, row);
                for (int col = 1; col <= size && !settled; col++) {
                    settled = takes(row, col);
                }
            }
        }

        /** Whether a row can have a column in a least matching where the rows above stay; it gets it. */
        private boolean takes(int row, int wanted) {
            if (rowOf[wanted] == row) {
                return true;
            }
            if (rowOf[wanted] < row || extraCost(row, wanted) != 0) {
                return false;
            }
            int left = columnOf(row);
            if (!reaches(row, wanted, left)) {
                return false;
            }
            moveAlong(left);
            return true;
        }

        private int columnOf(int row) {
            for (int col = 1; col <= size; col++) {
                if (rowOf[col] == row) {
                    return col;
                }
            }
            return 0;
        }

        /** Whether a chain without extra cost leads from the wanted column to the one left free. */
        private boolean reaches(int row, int wanted, int left) {
            forgetSeen();
            rowOf[0] = row;
            cameFrom[wanted] = 0;
            seen[wanted] = true;
            queue[0] = wanted;
            int queued = 1;
            for (int next = 0; next < size && next < queued && !seen[left]; next++) {
                queued = queueFrom(queue[next], row, queued);
            }
            return seen[left];
        }

        /** Queues the unseen columns to which a column's row can move: how many are queued then. */
        private int queueFrom(int from, int settling, int queuedBefore) {
            int queued = queuedBefore;
            for (int col = 1; col <= size; col++) {
                boolean open = !seen[col] && rowOf[col] >= settling;
                if (open && extraCost(rowOf[from], col) == 0) {
                    seen[col] = true;
                    cameFrom[col] = from;
                    queue[queued] = col;
                    queued++;
                }
            }
            return queued;
        }
    }

    /** The nets as they were before the latest runs that changed some. */
    private static final class History {
        /** One more than are kept, so that a run that changes nothing overwrites none of them. */
        private static final int SLOTS = UNDO_LIMIT + 1;

        private final int[][] nets = new int[SLOTS][PIN_LIMIT];
        private final int[] pinCount = new int[SLOTS];
        private int slot;
        private int kept;

        /** Writes down the nets at the begin of a run: where they stand now. */
        private int[] begin(int[] now, int count) {
            System.arraycopy(now, 0, nets[slot], 0, count);
            pinCount[slot] = count;
            return nets[slot];
        }

        private void keep() {
            slot = (slot + 1) % SLOTS;
            if (kept < UNDO_LIMIT) {
                kept++;
            }
        }

        private boolean restore(int[] now) {
            if (kept == 0) {
                return false;
            }
            kept--;
            slot = (slot + SLOTS - 1) % SLOTS;
            System.arraycopy(nets[slot], 0, now, 0, pinCount[slot]);
            return true;
        }
    }

    /** Gates, each with its number of inputs and its table. */
    private static final class Gates {
        /**
         * Orders of inputs: hex digit j tells which input takes the place of input j. Those of one
         * input stand first, then those of two, three and four, so that each number of inputs has
         * its orders at the front.
         */
        private static final int[] ORDERS = {
            0x3210,
            0x3201,
            0x3120, 0x3102, 0x3021, 0x3012,
            0x2310, 0x2301, 0x2130, 0x2103, 0x2031, 0x2013,
            0x1320, 0x1302, 0x1230, 0x1203, 0x1032, 0x1023,
            0x0321, 0x0312, 0x0231, 0x0213, 0x0132, 0x0123
        };
        private static final int[] ORDER_COUNT = {0, 1, 2, 6, 24};

        private int count;
        private final int[] inputs = new int[GATE_LIMIT];
        private final int[] table = new int[GATE_LIMIT];

        private int add(int withInputs, int withTable) {
            if (count >= GATE_LIMIT) {
                return NONE;
            }
            inputs[count] = withInputs;
            table[count] = withTable;
            count++;
            return count - 1;
        }

        private boolean areEqual(int a, int b) {
            if (inputs[a] != inputs[b]) {
                return false;
            }
            for (int k = 0; k < ORDER_COUNT[inputs[a]]; k++) {
                if (reordered(table[a], inputs[a], ORDERS[k]) == table[b]) {
                    return true;
                }
            }
            return false;
        }

        private static int reordered(int bits, int inputCount, int order) {
            int result = 0;
            for (int i = 0; i < 1 << inputCount; i++) {
                result |= (bits >> reorderedInputs(i, inputCount, order) & 1) << i;
            }
            return result;
        }

        private static int reorderedInputs(int i, int inputCount, int order) {
            int result = 0;
            for (int j = 0; j < inputCount; j++) {
                result |= (i >> j & 1) << (order >> 4 * j & 3);
            }
            return result;
        }
    }
}
