import java.util.ArrayDeque;
import java.util.ArrayList;
import java.util.Arrays;
import java.util.Deque;
import java.util.List;
import java.util.Random;

/**
 * Long runs of calls, the same ones each time, whose answers are held against a model that is
 * written straight from the document's words, without regard to speed.
 */
public final class ModelTest {
    private static final int RUNS = 6000;
    /** What an object answers later is free. */
    private static final int CALLS = 512;
    /** A run, and the nets of 80 pins. */
    private static final int DEAREST_STEP = 81;

    private static int wrong;

    public static void main(String[] args) {
        for (int run = 0; run < RUNS && wrong < 20; run++) {
            new Run(run).play();
        }
        System.out.println(wrong == 0 ? RUNS + " runs are as the model's" : wrong + " answers are not the model's");
        if (wrong != 0) {
            System.exit(1);
        }
    }

    /** One run of calls, on the class and on the model. */
    private static final class Run {
        private final int number;
        private final Random random;
        private final PinSwaps real = new PinSwaps();
        private final Model model = new Model();
        private final int netBound;
        private final int spread;
        private final int groupBound;
        private final int bankBound;
        private int calls;

        private interface Call {
            Object on(Face face);
        }

        Run(int number) {
            this.number = number;
            random = new Random(number);
            netBound = 2 + random.nextInt(random.nextBoolean() ? 10 : 198);
            spread = new int[] {1, 2, 3, 10, 1000, 1_000_000}[random.nextInt(6)];
            groupBound = 1 + random.nextInt(random.nextBoolean() ? 2 : 12);
            bankBound = 1 + random.nextInt(16);
        }

        void play() {
            Face real = new RealFace(this.real);
            int pinsWanted = random.nextInt(81);
            for (int i = 0; i < groupBound; i++) {
                both(real, "group()", Face::group);
            }
            for (int i = 0; i < pinsWanted; i++) {
                tellPin(real);
            }
            while (calls + DEAREST_STEP <= CALLS) {
                anyCall(real);
            }
        }

        private void both(Face real, String name, Call call) {
            calls++;
            Object want = answer(call, model);
            Object got = answer(call, real);
            if (!want.equals(got)) {
                wrong++;
                System.out.println("run " + number + ": " + name + " answered " + got + ", the model " + want);
            }
        }

        private void bothNets(Face real) {
            both(real, "nets", Face::nets);
            calls += Math.min(79, model.pins.size());
        }

        private static Object answer(Call call, Face face) {
            try {
                return call.on(face);
            } catch (RuntimeException e) {
                return e.getClass().getSimpleName();
            }
        }

        private long place() {
            return random.nextInt(400) == 0 ? 1_000_001L : random.nextInt(2 * spread + 1) - spread;
        }

        private int below(int bound) {
            return random.nextInt(150) == 0 ? (random.nextBoolean() ? -1 : bound) : random.nextInt(Math.max(1, bound));
        }

        private void tellPin(Face real) {
            int group = below(groupBound);
            long x = place();
            long y = place();
            int net = random.nextInt(100) == 0 ? 200 : random.nextInt(netBound);
            both(real, "pin(" + group + ", " + x + ", " + y + ", " + net + ")", f -> f.pin(group, x, y, net));
        }

        private void tellNet(Face real) {
            int net = random.nextInt(100) == 0 ? 200 : random.nextInt(netBound);
            if (random.nextInt(4) > 0) {
                long x = place();
                long y = place();
                both(real, "target(" + net + ", " + x + ", " + y + ")", f -> f.target(net, x, y));
            } else {
                int bank = random.nextInt(3) == 0 ? PinSwaps.NONE : below(bankBound);
                both(real, "needs(" + net + ", " + bank + ")", f -> f.needs(net, bank));
            }
        }

        private void changePin(Face real) {
            int a = below(model.pins.size());
            int b = below(model.pins.size());
            int bank = below(bankBound);
            switch (random.nextInt(5)) {
                case 0 -> both(real, "lock(" + a + ")", f -> mayLock(a) ? f.lock(a) : "spared");
                case 1, 2 -> both(real, "pair(" + a + ", " + b + ")", f -> f.pair(a, b));
                default -> both(real, "bank(" + a + ", " + bank + ")", f -> f.bank(a, bank));
            }
        }

        /** Spares most pins from locks, so that there is something left to match. */
        private boolean mayLock(int pin) {
            return (pin * 7 + number) % 4 == 0;
        }

        private void lookAtGates(Face real) {
            int inputs = random.nextInt(6);
            int table = random.nextInt(inputs == 0 ? 1 : 1 << Math.min(16, 1 << inputs));
            int pins = random.nextInt(30) == 0 ? random.nextInt() : (inputs << 16) + table;
            both(real, "gate(" + pins + ")", f -> f.gate(pins));
            int a = below(model.gates.size());
            int b = below(model.gates.size());
            both(real, "equalGate(" + a + ", " + b + ")", f -> f.equalGate(a, b));
        }

        private void anyCall(Face real) {
            int kind = random.nextInt(20);
            int pin = below(model.pins.size());
            int side = below(2);
            int what = below(3);
            int k = random.nextInt(6);
            switch (kind) {
                case 0, 1, 2, 3, 4, 5 -> tellNet(real);
                case 6, 7, 8 -> changePin(real);
                case 9 -> tellPin(real);
                case 10 -> lookAtGates(real);
                case 11, 12 -> {
                    both(real, "run()", Face::run);
                    bothNets(real);
                }
                case 13 -> {
                    both(real, "undo()", Face::undo);
                    bothNets(real);
                }
                case 14, 15 -> both(real, "dual(" + side + ", " + pin + ")", f -> f.dual(side, pin));
                case 16 -> both(real, "note(" + k + ", " + what + ")", f -> f.note(k, what));
                case 17 -> both(real, "crossings()", Face::crossings);
                case 18 -> both(real, "sum()", Face::sum);
                default -> both(real, "before()", Face::before);
            }
        }
    }

    /** What both of them answer. */
    private interface Face {
        Object group();

        Object pin(int group, long x, long y, int net);

        Object target(int net, long x, long y);

        Object lock(int pin);

        Object pair(int a, int b);

        Object bank(int pin, int b);

        Object needs(int net, int b);

        Object run();

        Object nets();

        Object sum();

        Object before();

        Object dual(int side, int k);

        Object note(int k, int what);

        Object gate(int pins);

        Object equalGate(int a, int b);

        Object undo();

        Object crossings();
    }

    private record RealFace(PinSwaps p) implements Face {
        public Object group() {
            return p.group();
        }

        public Object pin(int group, long x, long y, int net) {
            return p.pin(group, x, y, net);
        }

        public Object target(int net, long x, long y) {
            return p.target(net, x, y);
        }

        public Object lock(int pin) {
            return p.lock(pin);
        }

        public Object pair(int a, int b) {
            return p.pair(a, b);
        }

        public Object bank(int pin, int b) {
            return p.bank(pin, b);
        }

        public Object needs(int net, int b) {
            return p.needs(net, b);
        }

        public Object run() {
            return p.run();
        }

        public Object nets() {
            List<Integer> all = new ArrayList<>();
            for (int pin = 0; pin < 80; pin++) {
                try {
                    all.add(p.netOf(pin));
                } catch (IndexOutOfBoundsException e) {
                    return all.toString();
                }
            }
            return all.toString();
        }

        public Object sum() {
            return p.sum();
        }

        public Object before() {
            return p.before();
        }

        public Object dual(int side, int k) {
            return p.dual(side, k);
        }

        public Object note(int k, int what) {
            return p.note(k, what);
        }

        public Object gate(int pins) {
            return p.gate(pins);
        }

        public Object equalGate(int a, int b) {
            return p.equalGate(a, b);
        }

        public Object undo() {
            return p.undo();
        }

        public Object crossings() {
            return p.crossings();
        }
    }

    private static final class Pin {
        int number;
        int group;
        long x;
        long y;
        int net;
        int told;
        int bank;
        boolean locked;
        Pin partner;
        boolean second;

        boolean unitLocked() {
            return locked || partner != null && partner.locked;
        }
    }

    /** The document's words, one after the other. */
    private static final class Model implements Face {
        private int groups;
        private final List<Pin> pins = new ArrayList<>();
        private final long[][] targets = new long[200][];
        private final int[] needed = new int[200];
        private long before;
        private final Deque<int[]> runs = new ArrayDeque<>();
        private final List<Integer> gates = new ArrayList<>();

        Model() {
            Arrays.fill(needed, -1);
        }

        private static void index(boolean fine) {
            if (!fine) {
                throw new IndexOutOfBoundsException();
            }
        }

        private static void argument(boolean fine) {
            if (!fine) {
                throw new IllegalArgumentException();
            }
        }

        private static boolean isPlace(long x, long y) {
            return Math.abs(x) <= 1_000_000 && Math.abs(y) <= 1_000_000;
        }

        private static boolean within(int k, int bound) {
            return 0 <= k && k < bound;
        }

        private Pin pinOf(int pin) {
            index(within(pin, pins.size()));
            return pins.get(pin);
        }

        public Object group() {
            return groups == 12 ? -1 : groups++;
        }

        public Object pin(int group, long x, long y, int net) {
            index(within(group, groups));
            argument(isPlace(x, y) && within(net, 200));
            if (pins.size() == 80 || pins.stream().filter(p -> p.group == group).count() == 12) {
                return -1;
            }
            Pin pin = new Pin();
            pin.number = pins.size();
            pin.group = group;
            pin.x = x;
            pin.y = y;
            pin.net = net;
            pin.told = net;
            pins.add(pin);
            return pin.number;
        }

        public Object target(int net, long x, long y) {
            index(within(net, 200));
            argument(isPlace(x, y));
            long[] old = targets[net];
            targets[net] = new long[] {x, y};
            return old == null || !Arrays.equals(old, targets[net]);
        }

        public Object lock(int pin) {
            boolean was = pinOf(pin).locked;
            pinOf(pin).locked = true;
            return !was;
        }

        public Object pair(int a, int b) {
            Pin first = pinOf(a);
            Pin second = pinOf(b);
            if (a == b || first.group != second.group || first.partner != null || second.partner != null) {
                return false;
            }
            first.partner = second;
            second.partner = first;
            second.second = true;
            return true;
        }

        public Object bank(int pin, int b) {
            Pin p = pinOf(pin);
            argument(within(b, 16));
            boolean another = p.bank != b;
            p.bank = b;
            return another;
        }

        public Object needs(int net, int b) {
            index(within(net, 200));
            argument(b == -1 || within(b, 16));
            boolean another = needed[net] != b;
            needed[net] = b;
            return another;
        }

        private long cost(int net, Pin pin) {
            long cost = 0;
            if (targets[net] != null) {
                cost += Math.abs(targets[net][0] - pin.x) + Math.abs(targets[net][1] - pin.y);
            }
            if (needed[net] != -1 && needed[net] != pin.bank) {
                cost += 1_000_000_000L;
            }
            return cost;
        }

        private List<Pin> units(int group, boolean pairs) {
            List<Pin> units = new ArrayList<>();
            for (Pin pin : pins) {
                if (pin.group == group && !pin.second && (pin.partner != null) == pairs && !pin.unitLocked()) {
                    units.add(pin);
                }
            }
            return units;
        }

        private long[][] costs(List<Pin> units) {
            long[][] costs = new long[units.size()][units.size()];
            for (int i = 0; i < units.size(); i++) {
                for (int j = 0; j < units.size(); j++) {
                    Pin taker = units.get(i);
                    Pin giver = units.get(j);
                    costs[i][j] = cost(giver.net, taker);
                    if (taker.partner != null) {
                        costs[i][j] += cost(giver.partner.net, taker.partner);
                    }
                }
            }
            return costs;
        }

        public Object run() {
            before = (Long) sum();
            int[] old = pins.stream().mapToInt(p -> p.net).toArray();
            for (int group = 0; group < groups; group++) {
                for (boolean pairs : new boolean[] {false, true}) {
                    List<Pin> units = units(group, pairs);
                    int[] givers = Best.matching(costs(units));
                    for (int i = 0; i < givers.length; i++) {
                        Pin taker = units.get(i);
                        Pin giver = units.get(givers[i]);
                        taker.net = old[giver.number];
                        if (pairs) {
                            taker.partner.net = old[giver.partner.number];
                        }
                    }
                }
            }
            int changed = (int) pins.stream().filter(p -> p.net != old[p.number]).count();
            if (changed > 0) {
                runs.push(old);
                if (runs.size() > 10) {
                    runs.removeLast();
                }
            }
            return changed;
        }

        public Object nets() {
            return pins.stream().map(p -> p.net).toList().toString();
        }

        public Object sum() {
            return pins.stream().mapToLong(p -> cost(p.net, p)).sum();
        }

        public Object before() {
            return before;
        }

        public Object dual(int side, int k) {
            index(within(side, 2));
            Pin unit = pinOf(k).second ? pinOf(k).partner : pinOf(k);
            if (unit.unitLocked()) {
                return -1L;
            }
            List<Pin> units = units(unit.group, unit.partner != null);
            if (side == 1 && units.size() == 1) {
                return -1L;
            }
            long[][] costs = costs(units);
            long least = Best.leastSum(costs, -1, -1);
            return Best.leastSum(costs, units.indexOf(unit), side) - least;
        }

        public Object note(int k, int what) {
            List<Pin> moved = pins.stream().filter(p -> p.net != p.told).toList();
            index(within(k, moved.size()) && within(what, 3));
            Pin pin = moved.get(k);
            return new int[] {pin.number, pin.told, pin.net}[what];
        }

        public Object gate(int pins) {
            int inputs = Math.floorDiv(pins, 65536);
            int table = Math.floorMod(pins, 65536);
            argument(inputs >= 1 && inputs <= 4 && table < 1L << (1 << inputs));
            if (gates.size() == 20) {
                return -1;
            }
            gates.add(pins);
            return gates.size() - 1;
        }

        public Object equalGate(int a, int b) {
            index(within(a, gates.size()) && within(b, gates.size()));
            int inputs = gates.get(a) / 65536;
            if (gates.get(b) / 65536 != inputs) {
                return false;
            }
            return someOrder(gates.get(a), gates.get(b), inputs, new int[inputs], 0);
        }

        private static boolean someOrder(int a, int b, int inputs, int[] order, int chosen) {
            if (chosen == inputs) {
                for (int i = 0; i < 1 << inputs; i++) {
                    int put = 0;
                    for (int j = 0; j < inputs; j++) {
                        put += (i / (1 << j) % 2) * (1 << order[j]);
                    }
                    if ((a >> i & 1) != (b >> put & 1)) {
                        return false;
                    }
                }
                return true;
            }
            for (int input = 0; input < inputs; input++) {
                int candidate = input;
                if (Arrays.stream(order, 0, chosen).noneMatch(o -> o == candidate)) {
                    order[chosen] = input;
                    if (someOrder(a, b, inputs, order, chosen + 1)) {
                        return true;
                    }
                }
            }
            return false;
        }

        public Object undo() {
            if (runs.isEmpty()) {
                return false;
            }
            int[] old = runs.pop();
            for (int pin = 0; pin < old.length; pin++) {
                pins.get(pin).net = old[pin];
            }
            return true;
        }

        public Object crossings() {
            int found = 0;
            for (Pin a : pins) {
                for (Pin b : pins) {
                    if (a.number < b.number && a.group == b.group && cross(a, b)) {
                        found++;
                    }
                }
            }
            return found;
        }

        /** Solves for where on each way (s and t of 0 .. 1) the two lines meet. */
        private boolean cross(Pin a, Pin b) {
            if (targets[a.net] == null || targets[b.net] == null) {
                return false;
            }
            long ax = targets[a.net][0] - a.x;
            long ay = targets[a.net][1] - a.y;
            long bx = targets[b.net][0] - b.x;
            long by = targets[b.net][1] - b.y;
            long whole = ax * by - ay * bx;
            long s = (b.x - a.x) * by - (b.y - a.y) * bx;
            long t = (b.x - a.x) * ay - (b.y - a.y) * ax;
            if (whole < 0) {
                whole = -whole;
                s = -s;
                t = -t;
            }
            return whole > 0 && s > 0 && s < whole && t > 0 && t < whole;
        }
    }

    /** The matchings, over all sets of givers; and, for few units, over all matchings one by one. */
    private static final class Best {
        private static final long NEVER = Long.MAX_VALUE / 100;

        /** least[set]: the least SUM of the last units with just the givers of the set. */
        private static long[] leastOfSets(long[][] costs, int row, int side) {
            int n = costs.length;
            long[] least = new long[1 << n];
            for (int set = 1; set < 1 << n; set++) {
                least[set] = NEVER;
                int i = n - Integer.bitCount(set);
                for (int j = 0; j < n; j++) {
                    boolean allowed = i != row || (side == 0) == (j == i);
                    if ((set >> j & 1) == 1 && allowed) {
                        least[set] = Math.min(least[set], costs[i][j] + least[set - (1 << j)]);
                    }
                }
            }
            return least;
        }

        static long leastSum(long[][] costs, int row, int side) {
            return leastOfSets(costs, row, side)[(1 << costs.length) - 1];
        }

        static int[] matching(long[][] costs) {
            int n = costs.length;
            long[] least = leastOfSets(costs, -1, -1);
            int[] givers = new int[n];
            int set = (1 << n) - 1;
            for (int i = 0; i < n; i++) {
                int chosen = -1;
                for (int j : preference(n, i)) {
                    boolean fits = (set >> j & 1) == 1 && costs[i][j] + least[set - (1 << j)] == least[set];
                    if (fits && chosen == -1) {
                        chosen = j;
                    }
                }
                givers[i] = chosen;
                set -= 1 << chosen;
            }
            if (n <= 5 && !Arrays.equals(givers, new OneByOne(costs).best)) {
                throw new AssertionError("the model is at odds with itself");
            }
            return givers;
        }

        private static int[] preference(int n, int i) {
            int[] order = new int[n];
            order[0] = i;
            int filled = 1;
            for (int j = 0; j < n; j++) {
                if (j != i) {
                    order[filled++] = j;
                }
            }
            return order;
        }
    }

    /** All matchings in the order in which they are liked: the first one with the least SUM. */
    private static final class OneByOne {
        private final long[][] costs;
        private final int[] now;
        private int[] best;
        private long bestSum = Long.MAX_VALUE;

        OneByOne(long[][] costs) {
            this.costs = costs;
            now = new int[costs.length];
            choose(0, 0, 0);
        }

        private void choose(int i, int used, long sum) {
            if (i == now.length) {
                if (sum < bestSum) {
                    bestSum = sum;
                    best = now.clone();
                }
                return;
            }
            for (int j : Best.preference(now.length, i)) {
                if ((used >> j & 1) == 0) {
                    now[i] = j;
                    choose(i + 1, used | 1 << j, sum + costs[i][j]);
                }
            }
        }
    }
}
