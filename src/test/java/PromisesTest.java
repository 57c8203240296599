/** What each promise says, by hand: ordinary inputs, the edges that the document names, wrong inputs. */
public final class PromisesTest {
    private static final long FAR = 1_000_000L;
    private static final long BANKED = 1_000_000_000L;
    private static final String INDEX = "IndexOutOfBoundsException";
    private static final String ARGUMENT = "IllegalArgumentException";

    private static int promise;
    private static int wrong;

    private interface Call {
        Object answer();
    }

    public static void main(String[] args) {
        newObject();
        groups();
        pinsAreTold();
        pinsRefused();
        targets();
        locks();
        pairs();
        banks();
        needs();
        runs();
        runsBreakTies();
        runsWithPairsAndLocks();
        netsOfPins();
        sums();
        before();
        duals();
        dualsOfPairsAndLocks();
        notes();
        gates();
        equalGates();
        undo();
        undoKeepsTen();
        crossings();
        System.out.println(wrong == 0 ? "all promises hold" : wrong + " answers are not as due");
        if (wrong != 0) {
            System.exit(1);
        }
    }

    private static void due(Object want, String name, Call call) {
        Object got;
        try {
            got = call.answer();
        } catch (RuntimeException e) {
            got = e.getClass().getSimpleName();
        }
        if (!String.valueOf(want).equals(String.valueOf(got))) {
            wrong++;
            System.out.println("promise " + promise + ": " + name + " answered " + got + ", due is " + want);
        }
    }

    /** One group; its pins lie at these x, y 0, with the nets 0, 1, 2, .. */
    private static PinSwaps row(long... xs) {
        PinSwaps p = new PinSwaps();
        p.group();
        for (int i = 0; i < xs.length; i++) {
            p.pin(0, xs[i], 0, i);
        }
        return p;
    }

    private static void aim(PinSwaps p, long... xs) {
        for (int i = 0; i < xs.length; i++) {
            p.target(i, xs[i], 0);
        }
    }

    private static String netsOf(PinSwaps p, int count) {
        StringBuilder text = new StringBuilder();
        for (int pin = 0; pin < count; pin++) {
            text.append(pin == 0 ? "" : " ").append(p.netOf(pin));
        }
        return text.toString();
    }

    private static void newObject() {
        promise = 1;
        PinSwaps p = new PinSwaps();
        due(-1, "NONE", () -> PinSwaps.NONE);
        due(INDEX, "pin(0, ..)", () -> p.pin(0, 0, 0, 0));
        due(INDEX, "netOf(0)", () -> p.netOf(0));
        due(INDEX, "equalGate(0, 0)", () -> p.equalGate(0, 0));
        due(INDEX, "note(0, 0)", () -> p.note(0, 0));
        due(0L, "sum", p::sum);
        due(0, "crossings", p::crossings);
        due(false, "undo", p::undo);
        due(0, "run", p::run);
    }

    private static void groups() {
        promise = 2;
        PinSwaps p = new PinSwaps();
        for (int i = 0; i < 12; i++) {
            due(i, "group", p::group);
        }
        due(-1, "the 13th group", p::group);
        due(-1, "and again", p::group);
        due(0, "pin of the last group", () -> p.pin(11, 0, 0, 0));
        due(INDEX, "pin of group 12", () -> p.pin(12, 0, 0, 0));
    }

    private static void pinsAreTold() {
        promise = 3;
        PinSwaps p = new PinSwaps();
        for (int group = 0; group < 8; group++) {
            p.group();
        }
        for (int i = 0; i < 12; i++) {
            int number = i;
            due(i, "pin " + i, () -> p.pin(0, number, 0, number));
        }
        due(-1, "the group's 13th", () -> p.pin(0, 0, 0, 0));
        for (int i = 12; i < 80; i++) {
            int number = i;
            due(i, "pin " + i, () -> p.pin(number / 12, FAR, -FAR, 199));
        }
        due(-1, "the 81st, of a group with 8", () -> p.pin(6, 0, 0, 0));
        due(-1, "the 81st, of a group with none", () -> p.pin(7, 0, 0, 0));
        due(199, "netOf(79)", () -> p.netOf(79));
        due(INDEX, "netOf(80)", () -> p.netOf(80));
        due(INDEX, "no group, though all is full", () -> p.pin(8, 0, 0, 0));
        due(ARGUMENT, "no net, though all is full", () -> p.pin(0, 0, 0, 200));
    }

    private static void pinsRefused() {
        promise = 3;
        PinSwaps p = new PinSwaps();
        p.group();
        due(INDEX, "group -1", () -> p.pin(-1, 0, 0, 0));
        due(INDEX, "group 1", () -> p.pin(1, 0, 0, 0));
        due(INDEX, "no group and no net", () -> p.pin(1, FAR + 1, 0, -1));
        due(INDEX, "group of the lowest int", () -> p.pin(Integer.MIN_VALUE, 0, 0, 0));
        due(ARGUMENT, "net -1", () -> p.pin(0, 0, 0, -1));
        due(ARGUMENT, "net 200", () -> p.pin(0, 0, 0, 200));
        due(ARGUMENT, "x too low", () -> p.pin(0, -FAR - 1, 0, 0));
        due(ARGUMENT, "x too high", () -> p.pin(0, FAR + 1, 0, 0));
        due(ARGUMENT, "y too low", () -> p.pin(0, 0, -FAR - 1, 0));
        due(ARGUMENT, "y too high", () -> p.pin(0, 0, FAR + 1, 0));
        due(ARGUMENT, "x far too low", () -> p.pin(0, Long.MIN_VALUE, 0, 0));
        due(ARGUMENT, "y whose low half is 0", () -> p.pin(0, 0, 1L << 32, 0));
        due(0, "refused ones count not", () -> p.pin(0, -FAR, FAR, 0));
    }

    private static void targets() {
        promise = 4;
        PinSwaps p = row(0);
        due(true, "the first, at 0, 0", () -> p.target(0, 0, 0));
        due(false, "the same", () -> p.target(0, 0, 0));
        due(true, "another x", () -> p.target(0, -FAR, 0));
        due(true, "another y", () -> p.target(0, -FAR, FAR));
        due(2 * FAR, "sum", p::sum);
        due(true, "net 199, on no pin", () -> p.target(199, FAR, -FAR));
        due(INDEX, "net -1", () -> p.target(-1, 0, 0));
        due(INDEX, "net 200", () -> p.target(200, 0, 0));
        due(INDEX, "no net and no place", () -> p.target(200, FAR + 1, 0));
        due(ARGUMENT, "x too high", () -> p.target(0, FAR + 1, 0));
        due(ARGUMENT, "x too low", () -> p.target(0, -FAR - 1, 0));
        due(ARGUMENT, "y too high", () -> p.target(0, 0, FAR + 1));
        due(ARGUMENT, "y too low", () -> p.target(0, 0, Long.MIN_VALUE));
        due(false, "refused ones change nothing", () -> p.target(0, -FAR, FAR));
    }

    private static void locks() {
        promise = 5;
        PinSwaps p = row(0, 10);
        aim(p, 10, 0);
        due(true, "lock", () -> p.lock(1));
        due(false, "lock again", () -> p.lock(1));
        due(0, "run", p::run);
        due("0 1", "nets", () -> netsOf(p, 2));
        due(INDEX, "pin -1", () -> p.lock(-1));
        due(INDEX, "pin 2", () -> p.lock(2));
    }

    private static void pairs() {
        promise = 6;
        PinSwaps p = row(0, 1, 2, 3, 4);
        p.group();
        p.pin(1, 0, 0, 9);
        due(false, "one pin", () -> p.pair(0, 0));
        due(false, "two groups", () -> p.pair(0, 5));
        due(true, "0 1", () -> p.pair(0, 1));
        due(false, "the same", () -> p.pair(0, 1));
        due(false, "turned round", () -> p.pair(1, 0));
        due(false, "the first one is in a pair", () -> p.pair(1, 2));
        due(false, "the second one is in a pair", () -> p.pair(2, 0));
        due(true, "a locked one may be in a pair", () -> p.lock(3) && p.pair(3, 2));
        due(INDEX, "no first pin", () -> p.pair(-1, 4));
        due(INDEX, "no second pin", () -> p.pair(4, 6));
        due(INDEX, "one pin that there is not", () -> p.pair(6, 6));
        due(INDEX, "the lowest int", () -> p.pair(0, Integer.MIN_VALUE));
    }

    private static void banks() {
        promise = 7;
        PinSwaps p = row(0);
        due(false, "0 is it at first", () -> p.bank(0, 0));
        due(true, "15", () -> p.bank(0, 15));
        due(false, "15 again", () -> p.bank(0, 15));
        p.needs(0, 15);
        due(0L, "sum in the right bank", p::sum);
        due(ARGUMENT, "16", () -> p.bank(0, 16));
        due(ARGUMENT, "-1", () -> p.bank(0, -1));
        due(INDEX, "pin 1", () -> p.bank(1, 0));
        due(INDEX, "pin -1", () -> p.bank(-1, 0));
        due(INDEX, "no pin and no bank", () -> p.bank(1, 16));
        due(false, "refused ones change nothing", () -> p.bank(0, 15));
    }

    private static void needs() {
        promise = 8;
        PinSwaps p = row(0);
        due(false, "none at first", () -> p.needs(0, PinSwaps.NONE));
        due(true, "0", () -> p.needs(0, 0));
        due(0L, "sum in the right bank", p::sum);
        due(false, "0 again", () -> p.needs(0, 0));
        due(true, "15", () -> p.needs(0, 15));
        due(BANKED, "sum in a wrong bank", p::sum);
        due(true, "none again", () -> p.needs(0, PinSwaps.NONE));
        due(0L, "sum without need", p::sum);
        due(ARGUMENT, "16", () -> p.needs(0, 16));
        due(ARGUMENT, "-2", () -> p.needs(0, -2));
        due(true, "net 199", () -> p.needs(199, 3));
        due(INDEX, "net 200", () -> p.needs(200, 0));
        due(INDEX, "net -1", () -> p.needs(-1, 0));
        due(INDEX, "no net and no bank", () -> p.needs(200, 16));
        due(false, "refused ones change nothing", () -> p.needs(0, PinSwaps.NONE));
    }

    private static void runs() {
        promise = 9;
        PinSwaps p = row(0, 10, 20);
        p.group();
        p.pin(1, 0, 0, 3);
        p.pin(1, 10, 0, 4);
        aim(p, 20, 0, 10, 10, 0);
        due(5, "run of two groups", p::run);
        due("1 2 0 4 3", "nets", () -> netsOf(p, 5));
        due(0, "run again", p::run);
        due("1 2 0 4 3", "nets", () -> netsOf(p, 5));

        PinSwaps twoGroups = row(0);
        twoGroups.group();
        twoGroups.pin(1, 10, 0, 1);
        aim(twoGroups, 10, 0);
        due(0, "no swap over groups", twoGroups::run);

        PinSwaps wantsBank = row(0, 10);
        aim(wantsBank, 0, 10);
        wantsBank.bank(1, 4);
        wantsBank.needs(0, 4);
        due(2, "a bank is worth more than a way", wantsBank::run);
        due(20L, "sum", wantsBank::sum);

        PinSwaps alike = new PinSwaps();
        alike.group();
        alike.pin(0, 0, 0, 7);
        alike.pin(0, 10, 0, 7);
        alike.pin(0, 20, 0, 8);
        alike.target(8, 0, 0);
        alike.target(7, 15, 0);
        due(2, "a pin that gets the net that it has counts not", alike::run);
        due("8 7 7", "nets", () -> netsOf(alike, 3));
    }

    private static void runsBreakTies() {
        promise = 9;
        PinSwaps free = row(0, 1, 2, 3, 4);
        free.target(4, 1, 0);
        due(2, "net 4 to pin 1; all else is alike", free::run);
        due("0 4 2 3 1", "the others keep theirs", () -> netsOf(free, 5));

        PinSwaps chain = row(0, 0, 0, 5);
        chain.bank(3, 1);
        chain.needs(1, 1);
        chain.needs(2, 1);
        chain.target(3, 0, 0);
        due(2, "net 1 or 2 to pin 3", chain::run);
        due("0 1 3 2", "pin 1 can keep, so pin 2 gives its net", () -> netsOf(chain, 4));

        PinSwaps lowest = row(0, 0, 0);
        lowest.bank(0, 1);
        lowest.needs(1, 1);
        lowest.needs(2, 1);
        due(2, "net 1 or 2 to pin 0", lowest::run);
        due("1 0 2", "that of the lowest unit", () -> netsOf(lowest, 3));

        PinSwaps keeps = row(0, 1, 2, 3);
        aim(keeps, 5, 5, 5, 5);
        due(0, "all matchings are least", keeps::run);
        due("0 1 2 3", "all keep theirs", () -> netsOf(keeps, 4));

        PinSwaps byUnit = new PinSwaps();
        byUnit.group();
        byUnit.pin(0, 0, 0, 9);
        byUnit.pin(0, 0, 0, 8);
        byUnit.pin(0, 0, 0, 7);
        byUnit.bank(0, 1);
        byUnit.needs(8, 1);
        byUnit.needs(7, 1);
        byUnit.run();
        due("8 9 7", "lowest number of the unit, not of the net", () -> netsOf(byUnit, 3));
    }

    private static void runsWithPairsAndLocks() {
        promise = 9;
        PinSwaps p = row(0, 1, 50, 51, 100);
        aim(p, 50, 51, 0, 1, 0);
        p.pair(0, 1);
        p.pair(3, 2);
        due(4, "pairs with pairs, the single pin keeps", p::run);
        due("3 2 1 0 4", "the first one's net to the first pin", () -> netsOf(p, 5));

        PinSwaps half = row(0, 1, 50, 51);
        aim(half, 50, 51, 0, 1);
        half.pair(0, 1);
        half.pair(2, 3);
        half.lock(3);
        due(0, "a lock on the second pin holds the pair", half::run);

        PinSwaps mixed = row(0, 10, 20, 30);
        aim(mixed, 30, 20, 10, 0);
        mixed.pair(1, 2);
        due(2, "the lone pair keeps, the pins swap", mixed::run);
        due("3 1 2 0", "nets", () -> netsOf(mixed, 4));

        PinSwaps full = row(0, 10, 20, 30, 40, 50, 60, 70, 80, 90, 100, 110);
        aim(full, 10, 20, 30, 40, 50, 60, 70, 80, 90, 100, 110, 0);
        due(12, "a ring of twelve", full::run);
        due("11 0 1 2 3 4 5 6 7 8 9 10", "nets", () -> netsOf(full, 12));
    }

    private static void netsOfPins() {
        promise = 10;
        PinSwaps p = row(0, 10);
        aim(p, 10, 0);
        due(0, "as told", () -> p.netOf(0));
        p.run();
        due(1, "as run", () -> p.netOf(0));
        due(0, "as run", () -> p.netOf(1));
        due(INDEX, "-1", () -> p.netOf(-1));
        due(INDEX, "2", () -> p.netOf(2));
    }

    private static void sums() {
        promise = 11;
        PinSwaps p = row(0, 10);
        due(0L, "without targets", p::sum);
        p.target(0, -3, 4);
        due(7L, "x and y together", p::sum);
        p.target(1, 10, -5);
        due(12L, "of all pins", p::sum);
        p.lock(1);
        due(12L, "locked ones, too", p::sum);
        p.pair(0, 1);
        due(12L, "pairs, too", p::sum);
        p.needs(0, 1);
        p.needs(1, 2);
        due(12L + 2 * BANKED, "in wrong banks", p::sum);

        PinSwaps far = row(-FAR);
        far.target(0, FAR, FAR);
        due(3 * FAR, "far", far::sum);
    }

    private static void before() {
        promise = 12;
        PinSwaps p = row(0, 10);
        aim(p, 10, 0);
        due(0L, "without any", p::before);
        p.run();
        due(20L, "as the run began", p::before);
        due(0L, "sum", p::sum);
        p.undo();
        due(20L, "it stays when undone", p::before);
        p.lock(0);
        p.target(0, 11, 0);
        due(20L, "it stays when costs change", p::before);
        p.run();
        due(21L, "of a run that changes nothing, too", p::before);
    }

    private static void duals() {
        promise = 13;
        PinSwaps p = row(0, 10, 20);
        aim(p, 10, 0, 20);
        due(20L, "pin 0 kept", () -> p.dual(0, 0));
        due(0L, "pin 0 kept not", () -> p.dual(1, 0));
        due(0L, "pin 2 kept", () -> p.dual(0, 2));
        due(20L, "pin 2 kept not", () -> p.dual(1, 2));
        due("0 1 2", "nothing changed", () -> netsOf(p, 3));
        p.run();
        due(0L, "pin 0 kept, as it is now", () -> p.dual(0, 0));
        due(20L, "pin 0 kept not", () -> p.dual(1, 0));
        p.needs(1, 3);
        p.bank(2, 3);
        due(BANKED - 40, "a wrong bank kept", () -> p.dual(0, 0));
        due(INDEX, "side -1", () -> p.dual(-1, 0));
        due(INDEX, "side 2", () -> p.dual(2, 0));
        due(INDEX, "pin -1", () -> p.dual(0, -1));
        due(INDEX, "pin 3", () -> p.dual(1, 3));

        PinSwaps alone = row(5);
        alone.target(0, 9, 0);
        due(0L, "alone, kept", () -> alone.dual(0, 0));
        due(-1L, "alone, kept not", () -> alone.dual(1, 0));

        PinSwaps alike = new PinSwaps();
        alike.group();
        alike.pin(0, 0, 0, 3);
        alike.pin(0, 10, 0, 3);
        alike.target(3, 0, 0);
        due(0L, "two units with one net change for nothing", () -> alike.dual(1, 0));
    }

    private static void dualsOfPairsAndLocks() {
        promise = 13;
        PinSwaps p = row(0, 1, 50, 51, 100);
        aim(p, 50, 51, 0, 1, 0);
        p.pair(1, 0);
        p.pair(3, 2);
        due(200L, "pair kept, by its first pin", () -> p.dual(0, 1));
        due(200L, "pair kept, by its second pin", () -> p.dual(0, 0));
        due(0L, "pair kept not", () -> p.dual(1, 2));
        due(0L, "the only single pin, kept", () -> p.dual(0, 4));
        due(-1L, "there is no other one, but pairs", () -> p.dual(1, 4));
        p.lock(2);
        due(-1L, "locked by the second pin", () -> p.dual(0, 3));
        due(-1L, "locked", () -> p.dual(1, 2));
        due(0L, "no other free pair, kept", () -> p.dual(0, 0));
        due(-1L, "no other free pair", () -> p.dual(1, 0));
        due(INDEX, "side 2 of a locked one", () -> p.dual(2, 3));
    }

    private static void notes() {
        promise = 14;
        PinSwaps p = row(0, 10, 20, 30);
        aim(p, 0, 30, 20, 10);
        due(INDEX, "none yet", () -> p.note(0, 0));
        p.run();
        due("1 1 3", "first", () -> p.note(0, 0) + " " + p.note(0, 1) + " " + p.note(0, 2));
        due("3 3 1", "second", () -> p.note(1, 0) + " " + p.note(1, 1) + " " + p.note(1, 2));
        due(INDEX, "third", () -> p.note(2, 0));
        due(INDEX, "-1", () -> p.note(-1, 0));
        due(INDEX, "what -1", () -> p.note(0, -1));
        due(INDEX, "what 3", () -> p.note(0, 3));
        due(INDEX, "the highest int", () -> p.note(Integer.MAX_VALUE, 0));
        p.target(1, 10, 0);
        p.target(3, 30, 0);
        due(2, "back by a run", p::run);
        due(INDEX, "none again", () -> p.note(0, 0));
        p.undo();
        due(1, "again there when undone", () -> p.note(0, 0));
    }

    private static void gates() {
        promise = 15;
        PinSwaps p = new PinSwaps();
        due(ARGUMENT, "0 inputs", () -> p.gate(1));
        due(ARGUMENT, "5 inputs", () -> p.gate(5 << 16));
        due(ARGUMENT, "-1", () -> p.gate(-1));
        due(ARGUMENT, "the lowest int", () -> p.gate(Integer.MIN_VALUE));
        due(ARGUMENT, "the highest int", () -> p.gate(Integer.MAX_VALUE));
        due(ARGUMENT, "3rd bit, 1 input", () -> p.gate((1 << 16) + 4));
        due(ARGUMENT, "5th bit, 2 inputs", () -> p.gate((2 << 16) + 16));
        due(ARGUMENT, "9th bit, 3 inputs", () -> p.gate((3 << 16) + 256));
        due(ARGUMENT, "16th bit, 3 inputs", () -> p.gate((3 << 16) + 0x8000));
        due(0, "all bits, 1 input", () -> p.gate((1 << 16) + 3));
        due(1, "all bits, 2 inputs", () -> p.gate((2 << 16) + 15));
        due(2, "all bits, 3 inputs", () -> p.gate((3 << 16) + 255));
        due(3, "all bits, 4 inputs", () -> p.gate((4 << 16) + 65535));
        for (int i = 4; i < 20; i++) {
            due(i, "gate " + i, () -> p.gate(1 << 16));
        }
        due(-1, "the 21st", () -> p.gate(1 << 16));
        due(ARGUMENT, "no gate, though all is full", () -> p.gate(0));
        due(true, "gate 19", () -> p.equalGate(19, 4));
        due(INDEX, "gate 20", () -> p.equalGate(19, 20));
    }

    private static void equalGates() {
        promise = 16;
        PinSwaps p = new PinSwaps();
        p.gate((3 << 16) + 0b11001010); // 0: input 2 chooses input 1 (1) or input 0 (0)
        p.gate((3 << 16) + 0b10111000); // 1: input 1 chooses input 0 (1) or input 2 (0)
        p.gate((3 << 16) + 0b10101100); // 2: input 2 chooses input 0 (1) or input 1 (0)
        p.gate((3 << 16) + 0b11101000); // 3: two of three
        p.gate((2 << 16) + 0b0110);     // 4: one of two
        p.gate((1 << 16) + 0b00);       // 5: never
        p.gate((2 << 16) + 0b0000);     // 6: never
        p.gate((2 << 16) + 0b1001);     // 7: none or both
        p.gate((1 << 16) + 0b10);       // 8: yes
        p.gate((1 << 16) + 0b01);       // 9: no
        due(true, "0 2", () -> p.equalGate(0, 2));
        due(true, "2 0", () -> p.equalGate(2, 0));
        due(true, "0 1", () -> p.equalGate(0, 1));
        due(true, "itself", () -> p.equalGate(0, 0));
        due(false, "0 3", () -> p.equalGate(0, 3));
        due(false, "4 7", () -> p.equalGate(4, 7));
        due(false, "8 9", () -> p.equalGate(8, 9));
        due(false, "other numbers of inputs", () -> p.equalGate(5, 6));
        due(INDEX, "-1 0", () -> p.equalGate(-1, 0));
        due(INDEX, "0 -1", () -> p.equalGate(0, -1));
        due(INDEX, "10 0", () -> p.equalGate(10, 0));
        due(INDEX, "0 10", () -> p.equalGate(0, 10));

        PinSwaps four = new PinSwaps();
        four.gate((4 << 16) + 0xAAAA); // input 0
        four.gate((4 << 16) + 0xFF00); // input 3
        four.gate((4 << 16) + 0x8888); // inputs 0 and 1
        four.gate((4 << 16) + 0xF000); // inputs 2 and 3
        four.gate((4 << 16) + 0x0002); // input 0 alone
        four.gate((4 << 16) + 0x4000); // all but input 0
        due(true, "input 0, input 3", () -> four.equalGate(0, 1));
        due(true, "0 and 1, 2 and 3", () -> four.equalGate(2, 3));
        due(false, "input 0, inputs 2 and 3", () -> four.equalGate(0, 3));
        due(false, "one alone, all but one", () -> four.equalGate(4, 5));
    }

    private static void undo() {
        promise = 17;
        PinSwaps p = row(0, 10);
        aim(p, 10, 0);
        due(false, "none", p::undo);
        p.run();
        p.pin(0, 5, 0, 77);
        p.lock(0);
        p.pair(0, 1);
        p.run();
        due(true, "past a run that changed nothing", p::undo);
        due("0 1 77", "a pin told since keeps its net", () -> netsOf(p, 3));
        due(0L, "before stays", p::before);
        due(false, "no more", p::undo);

        PinSwaps more = row(0, 10);
        aim(more, 10, 0);
        more.run();
        more.pin(0, 20, 0, 2);
        more.target(2, 0, 0);
        more.target(1, 20, 0);
        due(2, "a run with the new pin", more::run);
        due("2 0 1", "nets", () -> netsOf(more, 3));
        due(true, "the later one", more::undo);
        due("1 0 2", "nets", () -> netsOf(more, 3));
        due(true, "the earlier one", more::undo);
        due("0 1 2", "nets", () -> netsOf(more, 3));
        due(true, "and run anew", () -> more.run() > 0);
        due(true, "and undone anew", more::undo);
        due(false, "no more", more::undo);
    }

    private static void undoKeepsTen() {
        promise = 17;
        PinSwaps p = row(0, 10);
        for (int i = 0; i < 13; i++) {
            p.target(0, i % 2 == 0 ? 10 : 0, 0);
            due(2, "run " + i, p::run);
            due(0, "run that changes nothing", p::run);
        }
        due("1 0", "after 13", () -> netsOf(p, 2));
        for (int i = 0; i < 10; i++) {
            due(true, "undo " + i, p::undo);
            due(i % 2 == 0 ? "0 1" : "1 0", "nets", () -> netsOf(p, 2));
        }
        due(false, "the 11th", p::undo);
        due("1 0", "nets of the third run", () -> netsOf(p, 2));
        p.target(0, 0, 0);
        due(2, "run anew", p::run);
        due(true, "undo anew", p::undo);
        due(false, "no more", p::undo);
    }

    private static int crossingsOf(long[] a, long[] b) {
        PinSwaps p = new PinSwaps();
        p.group();
        p.pin(0, a[0], a[1], 0);
        p.pin(0, b[0], b[1], 1);
        p.target(0, a[2], a[3]);
        p.target(1, b[2], b[3]);
        return p.crossings();
    }

    private static long[] way(long x, long y, long toX, long toY) {
        return new long[] {x, y, toX, toY};
    }

    private static void crossings() {
        promise = 18;
        long[] flat = way(0, 0, 10, 0);
        due(1, "cross", () -> crossingsOf(flat, way(5, -5, 5, 5)));
        due(1, "cross, other sense", () -> crossingsOf(way(10, 0, 0, 0), way(4, 1, 5, -1)));
        due(0, "one ends on the other", () -> crossingsOf(flat, way(5, 5, 5, 0)));
        due(0, "one begins on the other", () -> crossingsOf(flat, way(5, 0, 5, 5)));
        due(0, "the other ends on the one", () -> crossingsOf(way(5, 5, 5, 0), flat));
        due(0, "one end in common", () -> crossingsOf(flat, way(10, 0, 20, 5)));
        due(0, "beside", () -> crossingsOf(flat, way(11, -5, 11, 5)));
        due(0, "above", () -> crossingsOf(flat, way(5, 1, 5, 5)));
        due(0, "parallel", () -> crossingsOf(flat, way(0, 1, 10, 1)));
        due(0, "on one line, over one another", () -> crossingsOf(flat, way(5, 0, 15, 0)));
        due(0, "the same way", () -> crossingsOf(flat, flat));
        due(0, "a way of no length on the other", () -> crossingsOf(flat, way(5, 0, 5, 0)));
        due(1, "far", () -> crossingsOf(way(-FAR, -FAR, FAR, FAR), way(-FAR, FAR - 1, FAR, -FAR)));
        due(0, "far, just not", () -> crossingsOf(way(-FAR, -FAR, FAR, FAR), way(-FAR, -FAR + 1, FAR - 2, FAR - 1)));

        PinSwaps p = row(0, 10, 20);
        p.target(0, 10, 10);
        due(0, "a net without target has no way", p::crossings);
        p.target(1, 0, 10);
        due(1, "two", p::crossings);
        p.target(2, -5, 5);
        due(3, "three", p::crossings);
        p.group();
        p.pin(1, 0, 5, 100);
        p.target(100, 20, 5);
        due(3, "another group's ways cross none", p::crossings);
        p.lock(0);
        p.pair(0, 1);
        due(3, "locked ones and pairs, too", p::crossings);

        PinSwaps swapped = row(0, 10);
        swapped.target(0, 10, 1);
        swapped.target(1, 0, 1);
        due(1, "before the run", swapped::crossings);
        swapped.run();
        due(0, "nets as they are now", swapped::crossings);
    }
}
