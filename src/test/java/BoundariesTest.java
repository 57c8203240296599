import java.util.ArrayDeque;
import java.util.Deque;

/**
 * Every sentence of the document that names a boundary (too small, too large, empty, full, a
 * wrap-around, a refused call) has a test of its own here, which begins with the sentence's words.
 */
public final class BoundariesTest {
    private static final int NONE = PinSwaps.NONE;
    private static final long FAR = 1_000_000L;
    private static final long BANKED = 1_000_000_000L;
    private static final String INDEX = "IndexOutOfBoundsException";
    private static final String ARGUMENT = "IllegalArgumentException";
    /** Wrong numbers whose low bits look like right ones, beside the extremes. */
    private static final int[] NO_NUMBERS = {-1, Integer.MIN_VALUE, Integer.MAX_VALUE, 1 << 16, 1 << 31 | 1, 256, 200};
    private static final long[] NO_COORDINATES = {
        -FAR - 1, FAR + 1, Long.MIN_VALUE, Long.MAX_VALUE, 1L << 32, -(1L << 32), (1L << 32) + 5
    };

    private static String sentence;
    private static int tests;
    private static int wrong;

    private interface Call {
        Object answer();
    }

    public static void main(String[] args) {
        terms();
        matchings();
        pinsAndNets();
        runsAndSums();
        dualsAndNotes();
        gatesAreTold();
        undone();
        ways();
        System.out.println(wrong == 0 ? tests + " tests of boundaries hold" : wrong + " answers are not as due");
        if (wrong != 0) {
            System.exit(1);
        }
    }

    private static void terms() {
        lastOf512Calls();
        groupsToEleven();
        twelvePinsOfAGroup();
        eightyPins();
        coordinates();
        banksToFifteen();
        netsTo199();
        targetOrNone();
        neededBankOrNone();
        gatesToNineteen();
        tableBits();
    }

    private static void matchings() {
        unitsNumber();
        lockedUnits();
        likeWithLike();
        firstToFirst();
        emptyMatchings();
        fullMatchings();
        lowestKeeps();
        lowestThatItCan();
        thenTheNext();
        allSmallBoards();
        allKeep();
    }

    private static void pinsAndNets() {
        newObject();
        noMoreGroups();
        noMorePinsInTheGroup();
        noMorePins();
        pinOfNoGroup();
        pinAtNoPlaceWithNoNet();
        anotherTargetOrTheFirst();
        targetOfNoNet();
        targetAtNoPlace();
        lockedBefore();
        lockOfNoPin();
        onePinIsNoPair();
        twoGroupsAreNoPair();
        inAPairAlready();
        pairOfNoPins();
        anotherBank();
        bankOfNoPin();
        noBank();
        needsOtherwise();
        needsOfNoNet();
        needsNoBank();
        refusedCallsLeaveNothing();
    }

    private static void runsAndSums() {
        howManyHaveAnother();
        netOfNoPin();
        sumOfNone();
        sumOfAll();
        beforeWithoutRun();
        beforeOfTheLatest();
    }

    private static void dualsAndNotes() {
        dualKept();
        dualNotKept();
        dualOfLocked();
        dualWithoutAnother();
        greatestDual();
        dualOfNoPinOrSide();
        noteOfAnotherNet();
        notesRise();
        noNote();
    }

    private static void gatesAreTold() {
        noMoreGates();
        notOneToFourInputs();
        tooManyBits();
        someOrder();
        noSuchGates();
    }

    private static void undone() {
        latestThatGave();
        noneToUndo();
        tenAreKept();
        tenAreKeptRoundTheRing();
        toldSince();
        beforeStays();
    }

    private static void ways() {
        onlyOfOneGroup();
        withoutTargetNoWay();
        onePointInCommon();
        noEndOfEither();
        greatestWays();
    }

    // How a test is written.

    private static void sentence(String section, String words) {
        sentence = section + ", '" + words + "'";
        tests++;
    }

    private static void due(Object want, String name, Call call) {
        Object got;
        try {
            got = call.answer();
        } catch (RuntimeException e) {
            got = e.getClass().getSimpleName();
        }
        if (!String.valueOf(want).equals(String.valueOf(got))) {
            wrong++;
            System.out.println(sentence + ": " + name + " answered " + got + ", due is " + want);
        }
    }

    private static PinSwaps withGroups(int count) {
        PinSwaps p = new PinSwaps();
        for (int i = 0; i < count; i++) {
            p.group();
        }
        return p;
    }

    /** One group; its pins lie at these x, y 0, with the nets 0, 1, 2, .. */
    private static PinSwaps row(long... xs) {
        PinSwaps p = withGroups(1);
        for (int i = 0; i < xs.length; i++) {
            p.pin(0, xs[i], 0, i);
        }
        return p;
    }

    /** One group of so many pins at 0, 0, so that only banks tell their costs apart. */
    private static PinSwaps heap(int count) {
        return row(new long[count]);
    }

    private static PinSwaps eighty() {
        PinSwaps p = withGroups(12);
        for (int i = 0; i < 80; i++) {
            p.pin(i % 12, -FAR, -FAR, i);
        }
        return p;
    }

    /** The nets 0, 1, 2, .. get their targets at these x, y 0; NONE: it gets none. */
    private static void aim(PinSwaps p, long... xs) {
        for (int i = 0; i < xs.length; i++) {
            if (xs[i] != NONE) {
                p.target(i, xs[i], 0);
            }
        }
    }

    private static String netsOf(PinSwaps p, int count) {
        StringBuilder text = new StringBuilder();
        for (int pin = 0; pin < count; pin++) {
            text.append(pin == 0 ? "" : " ").append(p.netOf(pin));
        }
        return text.toString();
    }

    // Terms.

    private static void lastOf512Calls() {
        sentence("What it is", "An object is used for at most 512 calls after it has been made");
        PinSwaps p = row(0, 10);
        for (int i = 0; i < 254; i++) {
            p.target(0, i % 2 == 0 ? 10 : 0, 0);
            due(2, "call " + (5 + 2 * i) + ", a run", p::run);
        }
        due(true, "the 512th call, undo", p::undo);

        PinSwaps full = eighty();
        for (int net = 0; net < 200; net++) {
            full.target(net, FAR, FAR);
        }
        for (int net = 0; net < 199; net++) {
            full.needs(net, 1);
        }
        for (int i = 0; i < 20; i++) {
            full.gate(4 << 16 | i);
        }
        due(80 * (4 * FAR + BANKED), "the 512th call, sum", full::sum);
    }

    private static void groupsToEleven() {
        sentence("Terms", "GROUPS 0 .. 11");
        PinSwaps p = new PinSwaps();
        for (int i = 0; i <= 11; i++) {
            int number = i;
            due(INDEX, "pin of group " + i + ", which is not yet", () -> p.pin(number, 0, 0, 0));
            due(number, "group", p::group);
            due(number, "pin of group " + i, () -> p.pin(number, 0, 0, 0));
        }
    }

    private static void twelvePinsOfAGroup() {
        sentence("Terms", "have up to 12 PINS");
        PinSwaps p = withGroups(2);
        for (int i = 0; i < 12; i++) {
            int number = i;
            due(2 * number, "pin " + i + " of group 0", () -> p.pin(0, 0, 0, 2 * number));
            due(2 * number + 1, "pin " + i + " of group 1", () -> p.pin(1, 0, 0, 2 * number + 1));
        }
        due(NONE, "the 13th of group 0", () -> p.pin(0, 0, 0, 0));
        due(NONE, "the 13th of group 1", () -> p.pin(1, 0, 0, 0));
        due(23, "net of the last one", () -> p.netOf(23));
    }

    private static void eightyPins() {
        sentence("Terms", "which are numbered over all groups, at most 80");
        PinSwaps p = withGroups(12);
        for (int i = 0; i < 80; i++) {
            int number = i;
            due(number, "pin " + i, () -> p.pin(11 - number % 12, 0, 0, 199 - number));
        }
        due("199 120", "nets of the first and the last", () -> p.netOf(0) + " " + p.netOf(79));
    }

    private static void coordinates() {
        sentence("Terms", "coordinates -1,000,000 .. 1,000,000");
        PinSwaps p = withGroups(1);
        due(0, "lowest x, highest y", () -> p.pin(0, -FAR, FAR, 0));
        due(1, "highest x, lowest y", () -> p.pin(0, FAR, -FAR, 0));
        due(true, "target of highest x, lowest y", () -> p.target(0, FAR, -FAR));
        due(4 * FAR, "sum", p::sum);
        due(true, "target of lowest x, highest y", () -> p.target(0, -FAR, FAR));
        due(4 * FAR, "sum", p::sum);
    }

    private static void banksToFifteen() {
        sentence("Terms", "has a BANK (0 .. 15, at first 0)");
        PinSwaps p = row(0);
        p.needs(0, 0);
        due(0L, "sum of a net that needs 0, at first", p::sum);
        for (int b = 15; b >= 0; b--) {
            int bank = b;
            due(true, "bank " + b, () -> p.bank(0, bank));
            due(b == 0 ? 0L : BANKED, "sum of a net that needs 0", p::sum);
        }
    }

    private static void netsTo199() {
        sentence("Terms", "and a net (0 .. 199), which is told with it");
        PinSwaps p = withGroups(1);
        due(0, "pin with net 0", () -> p.pin(0, 0, 0, 0));
        due(1, "pin with net 199", () -> p.pin(0, 0, 0, 199));
        due(2, "a second pin with net 199", () -> p.pin(0, 0, 0, 199));
        due("0 199 199", "nets", () -> netsOf(p, 3));
        due(true, "target of net 199", () -> p.target(199, 3, 0));
        due(6L, "sum", p::sum);
    }

    private static void targetOrNone() {
        sentence("Terms", "how far its TARGET is, along x and along y together (0 without one)");
        PinSwaps p = withGroups(1);
        p.pin(0, -7, 9, 0);
        due(0L, "sum without one", p::sum);
        p.target(0, 0, 0);
        due(16L, "sum with the target 0, 0", p::sum);
        p.target(0, -7, 9);
        due(0L, "sum on the target", p::sum);
        p.target(0, -8, 9);
        due(1L, "sum left of it", p::sum);
        p.target(0, -7, 10);
        due(1L, "sum above it", p::sum);
    }

    private static void neededBankOrNone() {
        sentence("Terms", "1,000,000,000 more when it NEEDS another bank");
        PinSwaps p = row(5);
        due(0L, "needs none", p::sum);
        p.needs(0, 1);
        due(BANKED, "needs another, without target", p::sum);
        p.target(0, 0, 0);
        due(BANKED + 5, "needs another, with a target", p::sum);
        p.bank(0, 2);
        due(BANKED + 5, "neither is bank 0", p::sum);
        p.bank(0, 1);
        due(5L, "needs the pin's", p::sum);
    }

    private static void gatesToNineteen() {
        sentence("Terms", "GATES 0 .. 19");
        PinSwaps p = new PinSwaps();
        for (int i = 0; i <= 19; i++) {
            int number = i;
            due(INDEX, "gate " + i + ", which is not yet", () -> p.equalGate(number, number));
            due(number, "gate", () -> p.gate(1 << 16));
            due(true, "gate " + i + " and the first", () -> p.equalGate(number, 0));
        }
    }

    private static void tableBits() {
        sentence("Terms", "n inputs (1 .. 4) and a table of 2 to the n bits");
        PinSwaps p = new PinSwaps();
        for (int n = 1; n <= 4; n++) {
            int highest = 1 << (1 << n) - 1;
            int inputs = n << 16;
            int first = 3 * (n - 1);
            due(first, "empty table", () -> p.gate(inputs));
            due(first + 1, "its highest bit", () -> p.gate(inputs + highest));
            due(first + 2, "full table", () -> p.gate(inputs + 2 * highest - 1));
            due(false, "empty and highest bit", () -> p.equalGate(first, first + 1));
            due(false, "highest bit and full", () -> p.equalGate(first + 1, first + 2));
        }
    }

    // Matchings.

    private static void unitsNumber() {
        sentence("Terms", "a unit has the number of its (first) pin");
        PinSwaps p = heap(6);
        p.pair(4, 0);
        p.pair(1, 2);
        p.pair(3, 5);
        p.bank(3, 1);
        p.needs(4, 1);
        p.needs(1, 1);
        due(4, "net 4 or net 1 to pin 3", p::run);
        due("5 1 2 4 3 0", "unit 1 keeps, not unit 4 with pin 0", () -> netsOf(p, 6));
    }

    private static void lockedUnits() {
        sentence("Terms", "LOCKED units, of which a pin is LOCKED, keep their nets");
        PinSwaps pins = row(0, 10, 20);
        aim(pins, 20, 10, 0);
        pins.lock(0);
        due(0, "run, one of two locked", pins::run);
        for (int locked = 0; locked < 4; locked++) {
            int pin = locked;
            PinSwaps p = row(0, 1, 50, 51);
            aim(p, 50, 51, 0, 1);
            p.lock(pin);
            p.pair(0, 1);
            p.pair(2, 3);
            due(0, "run, pin " + pin + " locked before it was in a pair", p::run);
        }
        PinSwaps later = row(0, 1, 50, 51);
        aim(later, 50, 51, 0, 1);
        later.pair(0, 1);
        later.pair(2, 3);
        later.lock(3);
        due(0, "run, a second pin locked later", later::run);

        PinSwaps rest = row(0, 10, 20);
        aim(rest, 20, 10, 0);
        rest.lock(1);
        due(2, "run of those that are not", rest::run);
        due("2 1 0", "nets", () -> netsOf(rest, 3));

        PinSwaps all = row(0, 10);
        aim(all, 10, 0);
        all.lock(0);
        all.lock(1);
        due(0, "run, all locked", all::run);
    }

    private static void likeWithLike() {
        sentence("Terms", "The others change nets: pins with pins, PAIRS with PAIRS");
        PinSwaps alone = row(0, 1);
        aim(alone, 1, 0);
        alone.pair(0, 1);
        due(0, "the pins of one pair change not with each other", alone::run);

        PinSwaps mixed = row(0, 10, 20);
        aim(mixed, 20, 10, 0);
        mixed.pair(0, 1);
        due(0, "a pair changes not with a pin", mixed::run);

        PinSwaps groups = row(0);
        groups.group();
        groups.pin(1, 10, 0, 1);
        aim(groups, 10, 0);
        due(0, "pins of two groups change not", groups::run);
    }

    private static void firstToFirst() {
        sentence("Terms", "the first one's net goes to a first pin, the second one's along with it");
        PinSwaps p = heap(4);
        p.pair(1, 0);
        p.pair(2, 3);
        p.bank(2, 1);
        p.needs(1, 1);
        due(4, "run", p::run);
        due("3 2 1 0", "nets", () -> netsOf(p, 4));

        PinSwaps turned = row(0, 100, 200, 300);
        turned.pair(0, 1);
        turned.pair(2, 3);
        aim(turned, 300, 200, NONE, NONE);
        due(4, "nearer, though each is on the other's place", turned::run);
        due("2 3 0 1", "nets", () -> netsOf(turned, 4));
        due(200L, "sum", turned::sum);
    }

    private static void emptyMatchings() {
        sentence("Terms", "RUN gives each group's pins, and its PAIRS, the MATCHING with the least SUM");
        due(0, "run without groups", () -> new PinSwaps().run());
        due(0, "run of empty groups", () -> withGroups(12).run());
        PinSwaps one = row(0);
        one.target(0, 5, 5);
        due(0, "run of one pin", one::run);
        one.lock(0);
        due(0, "run of none but a locked one", one::run);

        PinSwaps lastGroup = withGroups(12);
        lastGroup.pin(11, 0, 0, 0);
        lastGroup.pin(11, 10, 0, 1);
        aim(lastGroup, 10, 0);
        due(2, "run of the last group, behind empty ones", lastGroup::run);
    }

    private static void fullMatchings() {
        sentence("Terms", "A MATCHING of a group's pins (or of its PAIRS) says which of these units gets whose nets");
        PinSwaps pins = heap(12);
        for (int i = 0; i < 12; i++) {
            pins.bank(i, i);
            pins.needs(i, 11 - i);
        }
        due(12, "run of twelve pins", pins::run);
        due("11 10 9 8 7 6 5 4 3 2 1 0", "nets", () -> netsOf(pins, 12));
        due(0L, "sum", pins::sum);

        PinSwaps pairs = heap(12);
        for (int i = 0; i < 6; i++) {
            pairs.pair(i, 11 - i);
            pairs.bank(11 - i, i);
            pairs.needs(11 - i, (i + 1) % 6);
        }
        due(12, "run of six pairs", pairs::run);
        due("5 0 1 2 3 4 7 8 9 10 11 6", "nets", () -> netsOf(pairs, 12));

        PinSwaps all = eighty();
        for (int net = 0; net < 80; net++) {
            all.needs(net, (net / 12 + 1) % 7);
            all.bank(net, net / 12);
        }
        due(80, "run of twelve groups with eighty pins", all::run);
    }

    private static void lowestKeeps() {
        sentence("Terms", "of several that one in which the unit of the lowest number keeps its nets");
        PinSwaps p = row(0, 10, 20, 30);
        aim(p, 20, 30, 20, 20);
        due(3, "run", p::run);
        due("0 2 3 1", "unit 0 keeps, and is not in for 2 0 3 1", () -> netsOf(p, 4));
    }

    private static void lowestThatItCan() {
        sentence("Terms", "or else gets those of the unit of the lowest number that it can");
        PinSwaps p = row(0, 10, 20, 30);
        aim(p, 10, 30, NONE, NONE);
        due(4, "run", p::run);
        due("2 0 3 1", "unit 0 gets those of 2, though 3 0 2 1 would let unit 2 keep", () -> netsOf(p, 4));

        PinSwaps round = row(0, 10, 20, 30);
        aim(round, NONE, 0, 0, 0);
        due(4, "run", round::run);
        due("1 2 3 0", "each gets those of the next, though 1 3 2 0 would let unit 2 keep", () -> netsOf(round, 4));

        PinSwaps byUnit = withGroups(1);
        byUnit.pin(0, 0, 0, 9);
        byUnit.pin(0, 0, 0, 8);
        byUnit.pin(0, 0, 0, 7);
        byUnit.bank(0, 1);
        byUnit.needs(8, 1);
        byUnit.needs(7, 1);
        due(2, "run", byUnit::run);
        due("8 9 7", "the unit's number counts, not the net's", () -> netsOf(byUnit, 3));
    }

    private static void thenTheNext() {
        sentence("Terms", "then so the next one, and so on");
        PinSwaps next = row(0, 10, 20, 30);
        aim(next, NONE, NONE, 0, 20);
        due(3, "run", next::run);
        due("2 1 3 0", "unit 1 keeps, not 2 0 3 1", () -> netsOf(next, 4));

        PinSwaps third = row(0, 10, 20, 30);
        aim(third, 20, 10, 20, NONE);
        due(2, "run", third::run);
        due("3 1 2 0", "unit 2 keeps, not 3 1 0 2", () -> netsOf(third, 4));
    }

    /** Four pins in a row, whose nets have each of five targets: against all matchings, one by one. */
    private static void allSmallBoards() {
        sentence("Terms", "of several that one in which");
        long[] targets = {NONE, 0, 10, 20, 30};
        for (int board = 0; board < 625; board++) {
            long[] xs = new long[4];
            for (int net = 0, rest = board; net < 4; net++, rest /= 5) {
                xs[net] = targets[rest % 5];
            }
            PinSwaps p = row(0, 10, 20, 30);
            aim(p, xs);
            p.run();
            due(likedBest(xs), "nets of board " + board, () -> netsOf(p, 4));
        }
    }

    /** The first with the least sum, as they come in the order in which the document likes them. */
    private static String likedBest(long[] xs) {
        String best = "";
        long least = Long.MAX_VALUE;
        for (int code = 0; code < 256; code++) {
            int[] givers = new int[4];
            int used = 0;
            long sum = 0;
            for (int unit = 0; unit < 4; unit++) {
                givers[unit] = choice(unit, code >> 6 - 2 * unit & 3);
                used |= 1 << givers[unit];
                long x = xs[givers[unit]];
                sum += x == NONE ? 0 : Math.abs(x - 10 * unit);
            }
            if (used == 15 && sum < least) {
                least = sum;
                best = givers[0] + " " + givers[1] + " " + givers[2] + " " + givers[3];
            }
        }
        return best;
    }

    /** What a unit likes at this rank: first its own nets, then those of the others, rising. */
    private static int choice(int unit, int rank) {
        if (rank == 0) {
            return unit;
        }
        return rank <= unit ? rank - 1 : rank;
    }

    private static void allKeep() {
        sentence("Terms", "but when the least SUM is that which there is, all keep their nets");
        PinSwaps free = heap(12);
        due(0, "run where all costs nothing", free::run);
        PinSwaps far = row(0, 1, 2, 3);
        aim(far, 9, 9, 9, 9);
        due(0, "run where all matchings are least", far::run);
        due("0 1 2 3", "nets", () -> netsOf(far, 4));
        PinSwaps oneLess = row(0, 1);
        aim(oneLess, 1, NONE);
        due(2, "run where the least is one less", oneLess::run);
    }

    // Pins and nets.

    private static void newObject() {
        sentence("Promise 1", "No groups, no gates.");
        PinSwaps p = new PinSwaps();
        due(INDEX, "pin", () -> p.pin(0, 0, 0, 0));
        due(INDEX, "netOf", () -> p.netOf(0));
        due(INDEX, "lock", () -> p.lock(0));
        due(INDEX, "dual", () -> p.dual(0, 0));
        due(INDEX, "note", () -> p.note(0, 0));
        due(INDEX, "equalGate", () -> p.equalGate(0, 0));
        due(0L, "sum", p::sum);
        due(0L, "before", p::before);
        due(0, "crossings", p::crossings);
        due(0, "run", p::run);
        due(false, "undo", p::undo);
        due(0, "the first group", p::group);
        due(0, "the first gate", () -> p.gate(1 << 16));
        due(0, "the first group of another new object", () -> new PinSwaps().group());
    }

    private static void noMoreGroups() {
        sentence("Promise 2", "A new group: its number; NONE when there are 12.");
        PinSwaps p = withGroups(11);
        due(11, "the 12th", p::group);
        due(NONE, "the 13th", p::group);
        due(NONE, "the 14th", p::group);
        due(INDEX, "there is no group 12", () -> p.pin(12, 0, 0, 0));
        due(0, "there is group 11", () -> p.pin(11, 0, 0, 0));
    }

    private static void noMorePinsInTheGroup() {
        sentence("Promise 3", "NONE when the group has 12");
        PinSwaps p = withGroups(2);
        for (int i = 0; i < 11; i++) {
            p.pin(0, 0, 0, 0);
        }
        due(11, "the 12th", () -> p.pin(0, 0, 0, 0));
        due(NONE, "the 13th", () -> p.pin(0, 0, 0, 0));
        due(NONE, "the 14th", () -> p.pin(0, 0, 0, 0));
        due(12, "the first of another group gets the next number", () -> p.pin(1, 0, 0, 0));
        due(INDEX, "there is no pin 13", () -> p.netOf(13));
    }

    private static void noMorePins() {
        sentence("Promise 3", "or there are 80");
        PinSwaps p = withGroups(12);
        for (int i = 0; i < 79; i++) {
            p.pin(i / 12, 0, 0, 0);
        }
        due(79, "the 80th", () -> p.pin(6, 0, 0, 0));
        due(NONE, "the 81st, of a group with eight", () -> p.pin(6, 0, 0, 0));
        due(NONE, "the 81st, of a group with none", () -> p.pin(7, 0, 0, 0));
        due(NONE, "the 81st, of a group with twelve", () -> p.pin(0, 0, 0, 0));
        due(INDEX, "there is no pin 80", () -> p.netOf(80));
    }

    private static void pinOfNoGroup() {
        sentence("Promise 3", "IndexOutOfBoundsException, when there is no such group");
        PinSwaps p = withGroups(3);
        for (int group : NO_NUMBERS) {
            due(INDEX, "group " + group, () -> p.pin(group, 0, 0, 0));
        }
        due(INDEX, "group 3", () -> p.pin(3, 0, 0, 0));
        due(INDEX, "no group, no place, no net", () -> p.pin(3, FAR + 1, 0, 200));
        due(INDEX, "no group, though there are 80 pins", () -> eighty().pin(12, 0, 0, 0));
        due(0, "group 2", () -> p.pin(2, 0, 0, 0));
    }

    private static void pinAtNoPlaceWithNoNet() {
        sentence("Promise 3", "IllegalArgumentException, when it is no place, or no net.");
        PinSwaps p = withGroups(1);
        for (long c : NO_COORDINATES) {
            due(ARGUMENT, "x " + c, () -> p.pin(0, c, 0, 0));
            due(ARGUMENT, "y " + c, () -> p.pin(0, 0, c, 0));
        }
        for (int net : NO_NUMBERS) {
            due(ARGUMENT, "net " + net, () -> p.pin(0, 0, 0, net));
        }
        due(ARGUMENT, "no place, though there are 80 pins", () -> eighty().pin(0, 0, FAR + 1, 0));
        due(0, "the first pin still", () -> p.pin(0, 0, 0, 0));
    }

    private static void anotherTargetOrTheFirst() {
        sentence("Promise 4", "A net's TARGET: whether it is another one than before (or the first).");
        PinSwaps p = new PinSwaps();
        due(true, "the first, at 0, 0", () -> p.target(0, 0, 0));
        due(false, "the same", () -> p.target(0, 0, 0));
        due(true, "x one more", () -> p.target(0, 1, 0));
        due(true, "y one less", () -> p.target(0, 1, -1));
        due(false, "the same", () -> p.target(0, 1, -1));
        due(true, "x and y changed about", () -> p.target(0, -1, 1));
        due(true, "the first of net 199", () -> p.target(199, -1, 1));
        due(true, "back", () -> p.target(0, 0, 0));
    }

    private static void targetOfNoNet() {
        sentence("Promise 4", "IndexOutOfBoundsException, when it is no net");
        PinSwaps p = new PinSwaps();
        for (int net : NO_NUMBERS) {
            due(INDEX, "net " + net, () -> p.target(net, 0, 0));
        }
        due(INDEX, "no net, no place", () -> p.target(200, FAR + 1, 0));
    }

    private static void targetAtNoPlace() {
        sentence("Promise 4", "IllegalArgumentException, when it is no place.");
        PinSwaps p = row(0);
        for (long c : NO_COORDINATES) {
            due(ARGUMENT, "x " + c, () -> p.target(0, c, 0));
            due(ARGUMENT, "y " + c, () -> p.target(0, 0, c));
        }
        due(true, "the first still", () -> p.target(0, 3, 0));
        due(ARGUMENT, "another, at no place", () -> p.target(0, 9, FAR + 1));
        due(3L, "sum", p::sum);
    }

    private static void lockedBefore() {
        sentence("Promise 5", "A pin is LOCKED from now on: whether it was not.");
        PinSwaps p = heap(3);
        due(true, "pin 0", () -> p.lock(0));
        due(false, "pin 0 again", () -> p.lock(0));
        p.pair(0, 1);
        due(true, "pin 1, whose unit was locked, but not it", () -> p.lock(1));
        due(false, "pin 1 again", () -> p.lock(1));
        p.run();
        due(false, "pin 0 after a run", () -> p.lock(0));
    }

    private static void lockOfNoPin() {
        sentence("Promise 5", "IndexOutOfBoundsException, when there is no such pin.");
        PinSwaps p = heap(3);
        for (int pin : NO_NUMBERS) {
            due(INDEX, "pin " + pin, () -> p.lock(pin));
        }
        due(INDEX, "pin 3", () -> p.lock(3));
        due(true, "pin 2", () -> p.lock(2));
        due(INDEX, "pin 80 of 80", () -> eighty().lock(80));
        due(true, "pin 79 of 80", () -> eighty().lock(79));
    }

    private static void onePinIsNoPair() {
        sentence("Promise 6", "false, when it is one pin");
        PinSwaps p = heap(2);
        due(false, "0 0", () -> p.pair(0, 0));
        due(true, "0 is in no pair", () -> p.pair(0, 1));
    }

    private static void twoGroupsAreNoPair() {
        sentence("Promise 6", "they are of two groups");
        PinSwaps p = heap(2);
        p.group();
        p.pin(1, 0, 0, 2);
        p.pin(1, 0, 0, 3);
        due(false, "0 2", () -> p.pair(0, 2));
        due(false, "3 1", () -> p.pair(3, 1));
        due(true, "0 is in no pair", () -> p.pair(0, 1));
        due(true, "nor is 3", () -> p.pair(3, 2));
    }

    private static void inAPairAlready() {
        sentence("Promise 6", "or one is in a PAIR");
        PinSwaps p = heap(5);
        due(true, "0 1", () -> p.pair(0, 1));
        due(false, "0 1 again", () -> p.pair(0, 1));
        due(false, "1 0", () -> p.pair(1, 0));
        due(false, "a first pin as first", () -> p.pair(0, 2));
        due(false, "a first pin as second", () -> p.pair(2, 0));
        due(false, "a second pin as first", () -> p.pair(1, 2));
        due(false, "a second pin as second", () -> p.pair(2, 1));
        due(true, "2 3, which are in none", () -> p.pair(2, 3));
        due(false, "two pairs", () -> p.pair(0, 2));

        PinSwaps full = heap(12);
        for (int i = 0; i < 12; i += 2) {
            int first = i;
            due(true, "a group is all pairs", () -> full.pair(first, first + 1));
        }
    }

    private static void pairOfNoPins() {
        sentence("Promise 6", "IndexOutOfBoundsException likewise.");
        PinSwaps p = heap(3);
        for (int pin : NO_NUMBERS) {
            due(INDEX, pin + " first", () -> p.pair(pin, 0));
            due(INDEX, pin + " second", () -> p.pair(0, pin));
            due(INDEX, pin + " twice", () -> p.pair(pin, pin));
        }
        due(INDEX, "3 first", () -> p.pair(3, 2));
        due(INDEX, "3 second", () -> p.pair(2, 3));
        due(true, "2 and 0 are in none", () -> p.pair(2, 0));
        due(INDEX, "3, and one in a pair", () -> p.pair(2, 3));
    }

    private static void anotherBank() {
        sentence("Promise 7", "A pin's BANK: whether it is another one.");
        PinSwaps p = heap(2);
        due(false, "0, as at first", () -> p.bank(0, 0));
        due(true, "15", () -> p.bank(0, 15));
        due(false, "15 again", () -> p.bank(0, 15));
        due(true, "0 again", () -> p.bank(0, 0));
        due(true, "15 of another pin", () -> p.bank(1, 15));
    }

    private static void bankOfNoPin() {
        sentence("Promise 7", "IndexOutOfBoundsException likewise;");
        PinSwaps p = heap(3);
        for (int pin : NO_NUMBERS) {
            due(INDEX, "pin " + pin, () -> p.bank(pin, 0));
        }
        due(INDEX, "pin 3", () -> p.bank(3, 0));
        due(INDEX, "no pin, no bank", () -> p.bank(3, 16));
    }

    private static void noBank() {
        sentence("Promise 7", "IllegalArgumentException, when b is not 0 .. 15.");
        PinSwaps p = heap(1);
        p.bank(0, 7);
        for (int b : NO_NUMBERS) {
            due(ARGUMENT, "bank " + b, () -> p.bank(0, b));
        }
        due(ARGUMENT, "bank 16", () -> p.bank(0, 16));
        due(false, "it is 7 still", () -> p.bank(0, 7));
    }

    private static void needsOtherwise() {
        sentence("Promise 8", "A net NEEDS a bank, or (NONE) none: whether it is otherwise now.");
        PinSwaps p = new PinSwaps();
        due(false, "none, as at first", () -> p.needs(0, NONE));
        due(true, "0", () -> p.needs(0, 0));
        due(false, "0 again", () -> p.needs(0, 0));
        due(true, "15", () -> p.needs(0, 15));
        due(true, "none again", () -> p.needs(0, NONE));
        due(false, "none once more", () -> p.needs(0, NONE));
        due(false, "none of net 199, as at first", () -> p.needs(199, NONE));
        due(true, "15 of net 199", () -> p.needs(199, 15));
    }

    private static void needsOfNoNet() {
        sentence("Promise 8", "IndexOutOfBoundsException, when it is no net");
        PinSwaps p = new PinSwaps();
        for (int net : NO_NUMBERS) {
            due(INDEX, "net " + net, () -> p.needs(net, 0));
        }
        due(INDEX, "no net, no bank", () -> p.needs(200, 16));
    }

    private static void needsNoBank() {
        sentence("Promise 8", "IllegalArgumentException, when b is not NONE .. 15.");
        PinSwaps p = new PinSwaps();
        p.needs(0, 7);
        for (int b : NO_NUMBERS) {
            if (b != NONE) {
                due(ARGUMENT, "bank " + b, () -> p.needs(0, b));
            }
        }
        due(ARGUMENT, "bank 16", () -> p.needs(0, 16));
        due(ARGUMENT, "bank -2", () -> p.needs(0, -2));
        due(false, "it is 7 still", () -> p.needs(0, 7));
    }

    /** Two boards, told the same; one gets refused calls too, and must answer as the other does. */
    private static void refusedCallsLeaveNothing() {
        sentence("Not promised", "Nothing is promised beyond the answers and state changes described above");
        PinSwaps plain = fullBoard();
        PinSwaps refused = fullBoard();
        refuseAll(refused);
        due(everything(plain), "everything after refused calls", () -> everything(refused));

        PinSwaps plainRun = fullBoard();
        PinSwaps refusedRun = fullBoard();
        refuseAll(refusedRun);
        due(plainRun.run(), "run after refused calls", refusedRun::run);
        refuseAll(refusedRun);
        due(everything(plainRun), "everything after a run", () -> everything(refusedRun));

        PinSwaps plainUndo = fullBoard();
        PinSwaps refusedUndo = fullBoard();
        due(plainUndo.run(), "run", refusedUndo::run);
        refuseAll(refusedUndo);
        due(plainUndo.undo(), "undo after refused calls", refusedUndo::undo);
        due(plainUndo.undo(), "undo again", refusedUndo::undo);
        due(everything(plainUndo), "everything after undo", () -> everything(refusedUndo));
    }

    /** No group, pin or gate more finds room; two groups of pins have targets and a run behind them. */
    private static PinSwaps fullBoard() {
        PinSwaps p = withGroups(12);
        for (int i = 0; i < 80; i++) {
            p.pin(i / 12, i * 31 % 17, i * 13 % 19, i);
        }
        for (int net = 0; net < 24; net++) {
            p.target(net, net * 7 % 23, net * 5 % 29);
        }
        for (int i = 0; i < 20; i++) {
            p.gate(2 << 16 | i % 16);
        }
        p.run();
        for (int net = 0; net < 24; net += 3) {
            p.target(net, net * 11 % 23, net * 3 % 29);
            p.needs(net, 4);
        }
        p.bank(5, 4);
        p.bank(17, 4);
        p.pair(0, 1);
        p.pair(3, 2);
        p.lock(7);
        return p;
    }

    private static String everything(PinSwaps p) {
        StringBuilder text = new StringBuilder(netsOf(p, 80));
        text.append(" sum ").append(p.sum()).append(" before ").append(p.before());
        text.append(" crossings ").append(p.crossings()).append(" duals");
        for (int pin = 0; pin < 18; pin++) {
            text.append(' ').append(p.dual(0, pin)).append(' ').append(p.dual(1, pin));
        }
        text.append(" notes");
        for (int k = 0; k < 24; k++) {
            text.append(' ').append(pinOfNote(p, k));
        }
        text.append(" gates");
        for (int gate = 0; gate < 20; gate++) {
            text.append(' ').append(p.equalGate(gate, 2));
        }
        return text.toString();
    }

    private static int pinOfNote(PinSwaps p, int k) {
        try {
            return p.note(k, 0);
        } catch (IndexOutOfBoundsException e) {
            return NONE;
        }
    }

    private static void refuseAll(PinSwaps p) {
        due(NONE, "group", p::group);
        due(NONE, "pin", () -> p.pin(8, 1, 1, 1));
        due(INDEX, "pin", () -> p.pin(12, 1, 1, 1));
        due(ARGUMENT, "pin", () -> p.pin(8, 1, FAR + 1, 1));
        due(INDEX, "target", () -> p.target(200, 1, 1));
        due(ARGUMENT, "target", () -> p.target(1, FAR + 1, 1));
        due(INDEX, "lock", () -> p.lock(80));
        due(false, "pair", () -> p.pair(0, 4));
        due(false, "pair", () -> p.pair(4, 2));
        due(false, "pair", () -> p.pair(4, 4));
        due(false, "pair", () -> p.pair(4, 12));
        due(INDEX, "pair", () -> p.pair(4, 80));
        due(INDEX, "bank", () -> p.bank(80, 1));
        due(ARGUMENT, "bank", () -> p.bank(5, 16));
        due(INDEX, "needs", () -> p.needs(200, 1));
        due(ARGUMENT, "needs", () -> p.needs(0, 16));
        due(INDEX, "netOf", () -> p.netOf(80));
        due(INDEX, "dual", () -> p.dual(2, 0));
        due(INDEX, "note", () -> p.note(80, 0));
        due(NONE, "gate", () -> p.gate(2 << 16 | 1));
        due(ARGUMENT, "gate", () -> p.gate(2 << 16 | 16));
        due(INDEX, "equalGate", () -> p.equalGate(20, 0));
    }

    // Runs and sums.

    private static void howManyHaveAnother() {
        sentence("Promise 9", "RUNS: how many pins have another net now.");
        PinSwaps p = row(0, 10, 20);
        aim(p, 10, 0, 20);
        due(2, "two of three", p::run);
        due(0, "none, again", p::run);

        PinSwaps alike = withGroups(1);
        alike.pin(0, 0, 0, 7);
        alike.pin(0, 10, 0, 7);
        alike.pin(0, 20, 0, 8);
        alike.target(7, 15, 0);
        alike.target(8, 0, 0);
        due(2, "one gets the same net from another unit", alike::run);
        due("8 7 7", "nets", () -> netsOf(alike, 3));
    }

    private static void netOfNoPin() {
        sentence("Promise 10", "The net of a pin. IndexOutOfBoundsException, when there is no such pin.");
        PinSwaps p = heap(3);
        for (int pin : NO_NUMBERS) {
            due(INDEX, "pin " + pin, () -> p.netOf(pin));
        }
        due(2, "pin 2", () -> p.netOf(2));
        due(INDEX, "pin 3", () -> p.netOf(3));
        due(79, "pin 79 of 80", () -> eighty().netOf(79));
        due(INDEX, "pin 80 of 80", () -> eighty().netOf(80));
    }

    private static void sumOfNone() {
        sentence("Promise 11", "The sum of the COSTS of all pins' nets.");
        PinSwaps p = withGroups(12);
        p.target(0, FAR, FAR);
        p.needs(0, 5);
        due(0L, "a net on no pin", p::sum);
    }

    private static void sumOfAll() {
        sentence("Promise 11", "The sum of the COSTS of all pins' nets.");
        PinSwaps p = eighty();
        for (int net = 0; net < 80; net++) {
            p.target(net, FAR, FAR);
            p.needs(net, 15);
        }
        due(80_320_000_000L, "all are farthest, in wrong banks", p::sum);
        due(0, "run", p::run);
        due(80_320_000_000L, "before", p::before);

        PinSwaps same = eighty();
        same.target(3, -FAR, FAR);
        due(2 * FAR, "one of eighty", same::sum);
    }

    private static void beforeWithoutRun() {
        sentence("Promise 12", "0 without any.");
        PinSwaps p = row(0);
        p.target(0, 5, 0);
        due(0L, "no run", p::before);
        p.undo();
        due(0L, "undo is none", p::before);
        p.dual(0, 0);
        due(0L, "dual is none", p::before);
    }

    private static void beforeOfTheLatest() {
        sentence("Promise 12", "That sum, as it was when the latest run began");
        PinSwaps p = row(0, 10);
        aim(p, 10, 0);
        p.run();
        due(20L, "the first", p::before);
        p.target(0, 13, 0);
        due(20L, "the first still", p::before);
        p.run();
        due(3L, "a run that changes nothing is the latest, too", p::before);
        p.target(0, 10, 0);
        p.run();
        due(0L, "a run that begins with 0", p::before);
    }

    // Duals and notes.

    private static void dualKept() {
        sentence("Promise 13", "by how much the least SUM would be greater, if it kept its nets (side 0)");
        PinSwaps p = row(0, 10, 20);
        aim(p, 10, 0, 20);
        due("20 20 0", "each one", () -> p.dual(0, 0) + " " + p.dual(0, 1) + " " + p.dual(0, 2));
        due("0 1 2", "nothing is changed", () -> netsOf(p, 3));
        due(false, "nor is there a run", p::undo);
        p.run();
        due("0 0 0", "each one, as they are now", () -> p.dual(0, 0) + " " + p.dual(0, 1) + " " + p.dual(0, 2));
    }

    private static void dualNotKept() {
        sentence("Promise 13", "or if it didn't (1)");
        PinSwaps p = row(0, 10, 20);
        aim(p, 10, 0, 20);
        due("0 0 20", "each one", () -> p.dual(1, 0) + " " + p.dual(1, 1) + " " + p.dual(1, 2));
        p.run();
        due("20 20 20", "each one, as they are now", () -> p.dual(1, 0) + " " + p.dual(1, 1) + " " + p.dual(1, 2));
        PinSwaps free = heap(12);
        due(0L, "where all costs nothing", () -> free.dual(1, 11));
    }

    private static void dualOfLocked() {
        sentence("Promise 13", "NONE when it is LOCKED");
        PinSwaps p = row(0, 10, 20, 30, 40);
        aim(p, 40, 30, 20, 10, 0);
        p.lock(0);
        due("-1 -1", "a locked pin", () -> p.dual(0, 0) + " " + p.dual(1, 0));
        p.pair(1, 2);
        p.pair(3, 4);
        p.lock(2);
        due("-1 -1", "the pair's first pin", () -> p.dual(0, 1) + " " + p.dual(1, 1));
        due("-1 -1", "its second, which is locked", () -> p.dual(0, 2) + " " + p.dual(1, 2));
        due(0L, "the pair that is not", () -> p.dual(0, 4));
    }

    private static void dualWithoutAnother() {
        sentence("Promise 13", "or (side 1) there is no other one");
        PinSwaps p = row(7);
        p.target(0, 0, 0);
        due("0 -1", "the only pin", () -> p.dual(0, 0) + " " + p.dual(1, 0));
        p.group();
        p.pin(1, 0, 0, 1);
        due("0 -1", "another one in another group", () -> p.dual(0, 0) + " " + p.dual(1, 0));
        p.pin(0, 0, 0, 2);
        due("7 0", "another one", () -> p.dual(0, 0) + " " + p.dual(1, 0));
        p.lock(2);
        due("0 -1", "a locked one changes no nets", () -> p.dual(0, 0) + " " + p.dual(1, 0));

        PinSwaps pairs = heap(5);
        pairs.pair(0, 1);
        due("0 -1", "the only pair, by its first pin", () -> pairs.dual(0, 0) + " " + pairs.dual(1, 0));
        due("0 -1", "the only pair, by its second pin", () -> pairs.dual(0, 1) + " " + pairs.dual(1, 1));
        pairs.pair(4, 3);
        due("0 0", "one of two pairs", () -> pairs.dual(0, 1) + " " + pairs.dual(1, 1));
        due("0 -1", "the only pin beside pairs", () -> pairs.dual(0, 2) + " " + pairs.dual(1, 2));
    }

    private static void greatestDual() {
        sentence("Promise 13", "by how much the least SUM would be greater");
        PinSwaps p = withGroups(1);
        for (int i = 0; i < 4; i++) {
            long at = i < 2 ? -FAR : FAR;
            p.pin(0, at, at, i);
            p.target(i, -at, -at);
            p.bank(i, i < 2 ? 0 : 15);
            p.needs(i, i < 2 ? 15 : 0);
        }
        p.pair(0, 1);
        p.pair(2, 3);
        due("4016000000 0", "before the run", () -> p.dual(0, 3) + " " + p.dual(1, 3));
        due(4, "run", p::run);
        due("0 4016000000", "after it", () -> p.dual(0, 3) + " " + p.dual(1, 3));
    }

    private static void dualOfNoPinOrSide() {
        sentence("Promise 13", "IndexOutOfBoundsException, when there is no such pin, or side.");
        PinSwaps p = heap(3);
        for (int number : NO_NUMBERS) {
            due(INDEX, "pin " + number, () -> p.dual(0, number));
            due(INDEX, "side " + number, () -> p.dual(number, 0));
        }
        due(INDEX, "pin 3", () -> p.dual(1, 3));
        due(INDEX, "side 2", () -> p.dual(2, 0));
        p.lock(1);
        due(INDEX, "side 2 of a locked pin", () -> p.dual(2, 1));
        due(INDEX, "side -1 of a locked pin", () -> p.dual(-1, 1));
        due(INDEX, "side 2 of the only one", () -> heap(1).dual(2, 0));
    }

    private static void noteOfAnotherNet() {
        sentence("Promise 14", "whose net is another one than it was told with");
        PinSwaps p = row(0, 10, 20, 30);
        aim(p, 0, 30, 20, 10);
        due(INDEX, "none before the run", () -> p.note(0, 0));
        p.run();
        due("1 1 3", "the first", () -> p.note(0, 0) + " " + p.note(0, 1) + " " + p.note(0, 2));
        due("3 3 1", "the second", () -> p.note(1, 0) + " " + p.note(1, 1) + " " + p.note(1, 2));
        p.undo();
        due(INDEX, "none when it is undone", () -> p.note(0, 0));
        p.run();
        p.target(1, 10, 0);
        p.target(3, 30, 0);
        due(2, "run back", p::run);
        due(INDEX, "none when it has its net again", () -> p.note(0, 0));
    }

    private static void notesRise() {
        sentence("Promise 14", "Of the k-th pin, rising");
        PinSwaps p = eighty();
        for (int net = 0; net < 80; net++) {
            p.needs(net, (net / 12 + 1) % 7);
            p.bank(net, net / 12);
        }
        due(80, "run", p::run);
        for (int k = 0; k < 80; k++) {
            int number = k;
            due(number, "pin of note " + k, () -> p.note(number, 0));
            due(number, "net then of note " + k, () -> p.note(number, 1));
        }
        due(p.netOf(79), "net now of note 79", () -> p.note(79, 2));
        due(INDEX, "the 81st", () -> p.note(80, 0));
    }

    private static void noNote() {
        sentence("Promise 14", "IndexOutOfBoundsException, when there is none such, or what.");
        PinSwaps p = row(0, 10);
        aim(p, 10, 0);
        p.run();
        for (int number : NO_NUMBERS) {
            due(INDEX, "note " + number, () -> p.note(number, 0));
            due(INDEX, "what " + number, () -> p.note(0, number));
        }
        due(INDEX, "note 2", () -> p.note(2, 0));
        due(INDEX, "what 3", () -> p.note(0, 3));
        due(0, "note 1, what 2", () -> p.note(1, 2));
    }

    // Gates.

    private static void noMoreGates() {
        sentence("Promise 15", "its number; NONE when there are 20.");
        PinSwaps p = new PinSwaps();
        for (int i = 0; i < 19; i++) {
            p.gate(1 << 16);
        }
        due(19, "the 20th", () -> p.gate(1 << 16 | 1));
        due(NONE, "the 21st", () -> p.gate(1 << 16));
        due(NONE, "the 22nd", () -> p.gate(1 << 16));
        due(false, "the 20th is as told", () -> p.equalGate(19, 18));
        due(INDEX, "there is no gate 20", () -> p.equalGate(20, 0));
        due(ARGUMENT, "no inputs, though there are 20", () -> p.gate(0));
    }

    private static void notOneToFourInputs() {
        sentence("Promise 15", "IllegalArgumentException, when there are not 1 .. 4 inputs");
        PinSwaps p = new PinSwaps();
        for (int inputs : new int[] {0, 5, 6, 16, 257, 32767, -1, -4, -32768}) {
            due(ARGUMENT, inputs + " inputs", () -> p.gate(inputs * 65_536));
            due(ARGUMENT, inputs + " inputs and a table", () -> p.gate(inputs * 65_536 + 1));
        }
        for (int pins : new int[] {-1, 65_535, 3, Integer.MIN_VALUE, Integer.MAX_VALUE}) {
            due(ARGUMENT, "gate " + pins, () -> p.gate(pins));
        }
        due(0, "1 input", () -> p.gate(65_536));
        due(1, "4 inputs", () -> p.gate(4 * 65_536));
    }

    private static void tooManyBits() {
        sentence("Promise 15", "or the table has more bits than it should.");
        PinSwaps p = new PinSwaps();
        for (int n = 1; n <= 3; n++) {
            for (int bit = 0; bit < 16; bit++) {
                int pins = n * 65_536 + (1 << bit);
                boolean fits = bit < 1 << n;
                due(fits ? "told" : ARGUMENT, "bit " + bit + " of " + n + " inputs", () -> told(p.gate(pins)));
            }
        }
        due(14, "none was told with too many", () -> p.gate(4 * 65_536 + 0x8000));
    }

    private static String told(int number) {
        return number >= 0 ? "told" : "not told";
    }

    private static void someOrder() {
        sentence("Promise 16", "Whether two GATES answer alike when the inputs of the one are put in some order.");
        due(4, "kinds of gates with 1 input", () -> kindsOfGates(1));
        due(12, "kinds of gates with 2 inputs", () -> kindsOfGates(2));
        due(80, "kinds of gates with 3 inputs", () -> kindsOfGates(3));
        for (int a = 0; a < 4; a++) {
            for (int b = 0; b < 4; b++) {
                threeInputs(a, b);
                fourInputs(a, b);
            }
        }
        PinSwaps p = new PinSwaps();
        for (int n = 1; n <= 4; n++) {
            p.gate(n << 16);
        }
        due(true, "a gate and itself", () -> p.equalGate(3, 3));
        for (int n = 1; n < 4; n++) {
            int other = n;
            due(false, "never, with 1 input and with more", () -> p.equalGate(0, other));
            due(false, "never, with more inputs and with 1", () -> p.equalGate(other, 0));
        }
    }

    /** How many tables of n inputs there are of which none is equal to another. */
    private static int kindsOfGates(int n) {
        int kinds = 0;
        for (int table = 0; table < 1 << (1 << n); table++) {
            boolean first = true;
            for (int lower = 0; lower < table; lower++) {
                PinSwaps p = new PinSwaps();
                p.gate(n << 16 | table);
                p.gate(n << 16 | lower);
                boolean equal = p.equalGate(0, 1);
                if (equal != p.equalGate(1, 0)) {
                    return NONE;
                }
                first = first && !equal;
            }
            kinds += first ? 1 : 0;
        }
        return kinds;
    }

    /** The gate answers 1 to a chain of sets, so that no two of its inputs can change places. */
    private static void threeInputs(int a, int b) {
        if (a == b || a == 3 || b == 3) {
            return;
        }
        int c = 3 - a - b;
        PinSwaps p = new PinSwaps();
        p.gate(3 << 16 | answersTo(1, 1 | 2));
        p.gate(3 << 16 | answersTo(1 << a, 1 << a | 1 << b));
        p.gate(3 << 16 | answersTo(1 << a, 1 << b | 1 << c));
        due(true, "the order " + a + b + c, () -> p.equalGate(0, 1));
        due(false, "no chain", () -> p.equalGate(0, 2));
    }

    private static void fourInputs(int a, int b) {
        if (a == b) {
            return;
        }
        int c = (a + 1) % 4 == b ? (a + 2) % 4 : (a + 1) % 4;
        int d = 6 - a - b - c;
        PinSwaps p = new PinSwaps();
        p.gate(4 << 16 | answersTo(1, 1 | 2, 1 | 2 | 4));
        p.gate(4 << 16 | answersTo(1 << a, 1 << a | 1 << b, 15 - (1 << d)));
        p.gate(4 << 16 | answersTo(1 << a, 1 << a | 1 << b, 15 - (1 << c)));
        p.gate(4 << 16 | answersTo(1 << a, 1 << c | 1 << d, 15 - (1 << d)));
        due(true, "the order " + a + b + c + d, () -> p.equalGate(0, 1));
        due(true, "the order " + a + b + d + c, () -> p.equalGate(2, 0));
        due(false, "no chain", () -> p.equalGate(0, 3));
    }

    /** The table of a gate that answers 1 when just the inputs of one of these sets are 1. */
    private static int answersTo(int... sets) {
        int table = 0;
        for (int set : sets) {
            table |= 1 << set;
        }
        return table;
    }

    private static void noSuchGates() {
        sentence("Promise 16", "IndexOutOfBoundsException, when there are no such ones.");
        PinSwaps p = new PinSwaps();
        p.gate(1 << 16);
        p.gate(1 << 16);
        for (int gate : NO_NUMBERS) {
            due(INDEX, gate + " 0", () -> p.equalGate(gate, 0));
            due(INDEX, "0 " + gate, () -> p.equalGate(0, gate));
            due(INDEX, gate + " twice", () -> p.equalGate(gate, gate));
        }
        due(INDEX, "2 0", () -> p.equalGate(2, 0));
        due(INDEX, "0 2", () -> p.equalGate(0, 2));
        due(true, "1 0", () -> p.equalGate(1, 0));
    }

    // Undo.

    private static void latestThatGave() {
        sentence("Promise 17", "The latest run that gave a pin another net, and is not undone, is undone: true");
        PinSwaps p = row(0, 10);
        aim(p, 10, 0);
        p.run();
        p.target(0, 0, 0);
        p.target(1, 10, 0);
        p.run();
        p.run();
        due("0 1", "nets after both", () -> netsOf(p, 2));
        due(true, "the second one, not the third, which gave none", p::undo);
        due("1 0", "nets", () -> netsOf(p, 2));
        due(true, "the first one", p::undo);
        due("0 1", "nets", () -> netsOf(p, 2));
        due(false, "no more", p::undo);
        aim(p, 10, 0);
        due(2, "a new run", p::run);
        due(true, "it", p::undo);
        due(false, "no more", p::undo);

        PinSwaps locked = row(0, 10);
        aim(locked, 10, 0);
        locked.run();
        locked.lock(0);
        locked.pair(1, 0);
        due(true, "locked and paired since", locked::undo);
        due("0 1", "nets", () -> netsOf(locked, 2));
    }

    private static void noneToUndo() {
        sentence("Promise 17", "false, when there is none");
        due(false, "of a new object", () -> new PinSwaps().undo());
        PinSwaps p = row(0, 10);
        due(false, "without a run", p::undo);
        p.run();
        due(false, "after a run that gave none", p::undo);
        aim(p, 10, 0);
        p.run();
        p.undo();
        due(false, "after it is undone", p::undo);
        due("0 1", "nets", () -> netsOf(p, 2));
    }

    private static void tenAreKept() {
        sentence("Promise 17", "(10 are kept)");
        for (int runs = 9; runs <= 12; runs++) {
            PinSwaps p = row(0, 10);
            for (int i = 0; i < runs; i++) {
                p.target(0, i % 2 == 0 ? 10 : 0, 0);
                p.run();
                p.run();
            }
            for (int i = 0; i < Math.min(runs, 10); i++) {
                due(true, "undo " + i + " after " + runs + " runs", p::undo);
            }
            due(false, "one more after " + runs + " runs", p::undo);
            due(runs == 11 ? "1 0" : "0 1", "nets after " + runs + " runs", () -> netsOf(p, 2));
        }
    }

    /** More runs than are kept by so many that what is kept begins at every place of a ring. */
    private static void tenAreKeptRoundTheRing() {
        sentence("Promise 17", "(10 are kept)");
        for (int more = 0; more <= 12; more++) {
            PinSwaps p = row(0, 10, 20);
            Deque<String> kept = new ArrayDeque<>();
            changeNets(p, 10 + more, kept);
            undoThem(p, 4, kept);
            changeNets(p, 6, kept);
            undoThem(p, 11, kept);
        }
    }

    private static void changeNets(PinSwaps p, int times, Deque<String> kept) {
        for (int i = 0; i < times; i++) {
            String was = netsOf(p, 3);
            int pinOfNetZero = was.indexOf('0') / 2;
            p.target(0, 10 * ((pinOfNetZero + 1) % 3), 0);
            due(true, "a run that changes nets", () -> p.run() > 0);
            due(0, "a run that changes none, and is not kept", p::run);
            kept.push(was);
            if (kept.size() > 10) {
                kept.removeLast();
            }
        }
    }

    private static void undoThem(PinSwaps p, int times, Deque<String> kept) {
        for (int i = 0; i < times; i++) {
            String want = kept.isEmpty() ? netsOf(p, 3) : kept.peek();
            due(!kept.isEmpty(), "undo " + i, p::undo);
            due(want, "nets after undo " + i, () -> netsOf(p, 3));
            kept.poll();
        }
    }

    private static void toldSince() {
        sentence("Promise 17", "Pins that are told since keep theirs");
        PinSwaps p = row(0, 10);
        p.group();
        aim(p, 10, 0);
        p.run();
        p.pin(0, 20, 0, 5);
        p.pin(1, 20, 0, 6);
        due(true, "undo", p::undo);
        due("0 1 5 6", "nets", () -> netsOf(p, 4));

        PinSwaps moved = row(0, 10);
        aim(moved, 10, 0);
        moved.run();
        moved.pin(0, 20, 0, 2);
        moved.target(2, 0, 0);
        moved.target(1, 20, 0);
        due(2, "a run with the new pin", moved::run);
        due("2 0 1", "nets", () -> netsOf(moved, 3));
        moved.pin(0, 30, 0, 9);
        due(true, "undo it", moved::undo);
        due("1 0 2 9", "nets", () -> netsOf(moved, 4));
        due(true, "undo the first", moved::undo);
        due("0 1 2 9", "nets", () -> netsOf(moved, 4));
    }

    private static void beforeStays() {
        sentence("Promise 17", "before() stays.");
        PinSwaps p = row(0, 10);
        aim(p, 10, 0);
        p.run();
        p.target(0, 0, 0);
        p.target(1, 11, 0);
        p.run();
        due(21L, "of the second run", p::before);
        p.undo();
        due(21L, "when that is undone", p::before);
        p.undo();
        due(21L, "when the first is undone, too", p::before);
        p.undo();
        due(21L, "when there is none", p::before);
    }

    // Ways.

    private static long[] way(long x, long y, long toX, long toY) {
        return new long[] {x, y, toX, toY};
    }

    private static PinSwaps withWays(int groups, long[]... ways) {
        PinSwaps p = withGroups(groups);
        for (int i = 0; i < ways.length; i++) {
            p.pin(i % groups, ways[i][0], ways[i][1], i);
            p.target(i, ways[i][2], ways[i][3]);
        }
        return p;
    }

    /** Both ways may be told first, and go to and fro. */
    private static void dueOfBoth(int want, String name, long[] a, long[] b) {
        long[] backA = way(a[2], a[3], a[0], a[1]);
        long[] backB = way(b[2], b[3], b[0], b[1]);
        due(want, name, () -> withWays(1, a, b).crossings());
        due(want, name + ", the other first", () -> withWays(1, b, a).crossings());
        due(want, name + ", one back", () -> withWays(1, backA, b).crossings());
        due(want, name + ", the other back", () -> withWays(1, a, backB).crossings());
        due(want, name + ", both back", () -> withWays(1, backA, backB).crossings());
    }

    private static void onlyOfOneGroup() {
        sentence("Promise 18", "How many two pins of one group there are");
        due(0, "none", () -> withGroups(12).crossings());
        due(0, "one", () -> withWays(1, way(0, 0, 5, 5)).crossings());
        due(1, "two", () -> withWays(1, way(0, 0, 5, 5), way(0, 5, 5, 0)).crossings());
        due(0, "two of two groups", () -> withWays(2, way(0, 0, 5, 5), way(0, 5, 5, 0)).crossings());
        long[][] fan = new long[12][];
        for (int i = 0; i < 12; i++) {
            fan[i] = way(i, 0, 11 - i, 1);
        }
        due(66, "each two of twelve", () -> withWays(1, fan).crossings());
        PinSwaps p = withWays(1, fan);
        p.lock(0);
        p.pair(1, 2);
        due(66, "locked ones and pairs, too", p::crossings);
    }

    private static void withoutTargetNoWay() {
        sentence("Promise 18", "whose ways, straight to the TARGETS of their nets");
        PinSwaps p = withGroups(1);
        p.pin(0, 3, 0, 0);
        p.pin(0, 1, -5, 1);
        p.pin(0, 3, 1, 2);
        p.target(1, 1, 5);
        due(0, "without targets, as if they were not at 0, 0", p::crossings);
        p.target(0, 0, 0);
        due(1, "the first pin's net has one, there", p::crossings);
        p.target(2, 0, 0);
        due(2, "the last pin's net, too", p::crossings);
        PinSwaps same = withWays(1, way(0, 0, 5, 5));
        same.pin(0, 9, 0, 0);
        due(0, "two pins with one net", same::crossings);
        PinSwaps swapped = withWays(1, way(0, 0, 10, 1), way(10, 0, 0, 1));
        due(1, "as they are told", swapped::crossings);
        swapped.run();
        due(0, "of the nets that they have now", swapped::crossings);
    }

    private static void onePointInCommon() {
        sentence("Promise 18", "cross: have one point in common");
        long[] flat = way(0, 0, 10, 0);
        dueOfBoth(1, "in the middle", flat, way(5, -5, 5, 5));
        dueOfBoth(1, "at no whole number", flat, way(4, -1, 5, 2));
        dueOfBoth(1, "near an end", flat, way(1, 1, 0, -9));
        dueOfBoth(0, "beside the end", flat, way(11, -5, 11, 5));
        dueOfBoth(0, "just above", flat, way(5, 1, 5, 9));
        dueOfBoth(0, "parallel", flat, way(0, 1, 10, 1));
        dueOfBoth(0, "on one line, apart", flat, way(11, 0, 20, 0));
        dueOfBoth(0, "on one line, many points in common", flat, way(5, 0, 15, 0));
        dueOfBoth(0, "one within the other", flat, way(3, 0, 7, 0));
        dueOfBoth(0, "one within the other, with one end in common", flat, way(0, 0, 7, 0));
        dueOfBoth(0, "the same", flat, flat);
        dueOfBoth(0, "the same, aslant", way(1, 2, 7, 9), way(1, 2, 7, 9));
    }

    private static void noEndOfEither() {
        sentence("Promise 18", "that is no end of either.");
        long[] flat = way(0, 0, 10, 0);
        dueOfBoth(0, "an end of one, within the other", flat, way(5, 0, 5, 5));
        dueOfBoth(0, "an end of both", flat, way(10, 0, 12, 7));
        dueOfBoth(0, "an end of both, on one line", flat, way(10, 0, 20, 0));
        dueOfBoth(0, "no length, within the other", flat, way(5, 0, 5, 0));
        dueOfBoth(0, "no length, at the other's end", flat, way(10, 0, 10, 0));
        dueOfBoth(0, "no length, both", way(3, 3, 3, 3), way(3, 3, 3, 3));
        dueOfBoth(1, "one step past it", flat, way(5, -1, 5, 5));
    }

    private static void greatestWays() {
        sentence("Promise 18", "have one point in common that is no end of either.");
        long[] whole = way(-FAR, -FAR, FAR, FAR);
        dueOfBoth(1, "from corner to corner", whole, way(-FAR, FAR, FAR, -FAR));
        dueOfBoth(1, "nearly along it", whole, way(-FAR, -FAR + 1, FAR, FAR - 1));
        dueOfBoth(0, "nearly along it, beside", whole, way(-FAR, -FAR + 1, FAR - 2, FAR - 1));
        dueOfBoth(0, "along it", whole, way(-FAR + 1, -FAR + 1, FAR - 1, FAR - 1));
        dueOfBoth(0, "it ends on it", whole, way(-FAR, FAR, 0, 0));
        dueOfBoth(1, "it ends just past it", whole, way(-FAR, FAR, 1, 0));
    }
}
