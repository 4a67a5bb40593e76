/** Moving registers in a synchronous circuit. */
public final class RetimingBench {
    public static final int BAD = -1;
    public static final int FULL = -2;
    public static final int CIRCLE = -3;
    public static final int NO_PLAN = -100;
    public static final int NO_BLOCK = -101;

    private static final int MOST_BLOCKS = 5;
    private static final int MOST_PAIRS = 25;
    private static final int MOST_WIRES = 12;
    private static final int MOST_DELAY = 9;
    private static final int MOST_NEW_REGISTERS = 3;
    private static final int LONGEST_RUN = 45;

    // Applying a plan adds at most 4 registers to a wire, so in 512 calls no way comes near this.
    private static final int NO_WAY = 1000000;

    private final int[] delays = new int[MOST_BLOCKS];
    private final int[] wireStart = new int[MOST_WIRES];
    private final int[] wireEnd = new int[MOST_WIRES];
    private final int[] wireRegisters = new int[MOST_WIRES];

    // For each pair of blocks: the fewest registers on a way of one wire or more between them,
    // and the greatest sum of delays, both ends counted, on a way with that few.
    private final int[] fewestOnWay = new int[MOST_PAIRS];
    private final int[] slowestOfFewest = new int[MOST_PAIRS];

    private final int[] planLags = new int[MOST_BLOCKS];

    private final int blockCount;
    private int wireCount;

    public RetimingBench(int blocks) {
        blockCount = blocks < 1 ? 1 : blocks > MOST_BLOCKS ? MOST_BLOCKS : blocks;
        wireCount = 0;
    }

    public boolean delay(int v, int delay) {
        if (!isBlock(v) || delay < 0 || delay > MOST_DELAY) {
            return false;
        }
        delays[v] = delay;
        return true;
    }

    public int wire(int u, int v, int registers) {
        if (wireCount >= MOST_WIRES) {
            return FULL;
        }
        if (!isBlock(u) || !isBlock(v) || registers < 0 || registers > MOST_NEW_REGISTERS) {
            return BAD;
        }
        int added = wireCount;
        wireStart[added] = u;
        wireEnd[added] = v;
        wireRegisters[added] = registers;
        wireCount = added + 1;
        return added;
    }

    public int cut(int i) {
        if (!isWire(i)) {
            return BAD;
        }
        for (int later = i + 1; later < wireCount; later++) {
            wireStart[later - 1] = wireStart[later];
            wireEnd[later - 1] = wireEnd[later];
            wireRegisters[later - 1] = wireRegisters[later];
        }
        wireCount--;
        return wireCount;
    }

    public boolean sound() {
        measureWays();
        return everyCircleHasRegister();
    }

    public int period() {
        measureWays();
        if (!everyCircleHasRegister()) {
            return CIRCLE;
        }
        return longestRun();
    }

    public int best() {
        measureWays();
        if (!everyCircleHasRegister()) {
            return CIRCLE;
        }
        return proposePlan();
    }

    public int lag(int v) {
        if (!isBlock(v)) {
            return NO_BLOCK;
        }
        measureWays();
        if (!everyCircleHasRegister()) {
            return NO_PLAN;
        }
        proposePlan();
        return planLags[v];
    }

    public boolean reachable(int p) {
        measureWays();
        return everyCircleHasRegister() && planFor(p);
    }

    public int apply() {
        measureWays();
        if (!everyCircleHasRegister()) {
            return NO_PLAN;
        }
        proposePlan();
        int growth = 0;
        for (int i = 0; i < wireCount; i++) {
            int change = planLags[wireEnd[i]] - planLags[wireStart[i]];
            wireRegisters[i] += change;
            growth += change;
        }
        return growth;
    }

    public int registers(int i) {
        return isWire(i) ? wireRegisters[i] : BAD;
    }

    public int fewest(int u, int v) {
        if (!isBlock(u) || !isBlock(v)) {
            return BAD;
        }
        measureWays();
        int found = fewestOnWay[pair(u, v)];
        return found == NO_WAY ? FULL : found;
    }

    private boolean isBlock(int v) {
        return v >= 0 && v < blockCount;
    }

    private boolean isWire(int i) {
        return i >= 0 && i < wireCount;
    }

    private static int pair(int u, int v) {
        return u * MOST_BLOCKS + v;
    }

    private void measureWays() {
        for (int at = 0; at < MOST_PAIRS; at++) {
            fewestOnWay[at] = NO_WAY;
            slowestOfFewest[at] = 0;
        }
        for (int i = 0; i < wireCount; i++) {
            int u = wireStart[i];
            int v = wireEnd[i];
            offerWay(u, v, wireRegisters[i], delays[u] + delays[v]);
        }
        for (int middle = 0; middle < blockCount; middle++) {
            joinWaysAt(middle);
        }
    }

    private void joinWaysAt(int middle) {
        for (int u = 0; u < blockCount; u++) {
            for (int v = 0; v < blockCount; v++) {
                int first = pair(u, middle);
                int second = pair(middle, v);
                if (fewestOnWay[first] != NO_WAY && fewestOnWay[second] != NO_WAY) {
                    int registers = fewestOnWay[first] + fewestOnWay[second];
                    // The middle block is an end of both parts, but the way passes it once.
                    int length = slowestOfFewest[first] + slowestOfFewest[second] - delays[middle];
                    offerWay(u, v, registers, length);
                }
            }
        }
    }

    // In a sound circuit a way round a circle always has more registers than the way without it,
    // so the ways kept for two different blocks pass no block twice. Where the circuit is not
    // sound the lengths mean nothing, and only the registers are looked at.
    private void offerWay(int u, int v, int registers, int length) {
        int at = pair(u, v);
        boolean fewer = registers < fewestOnWay[at];
        boolean slower = registers == fewestOnWay[at] && length > slowestOfFewest[at];
        if (fewer || slower) {
            fewestOnWay[at] = registers;
            slowestOfFewest[at] = length;
        }
    }

    private boolean everyCircleHasRegister() {
        for (int v = 0; v < blockCount; v++) {
            if (fewestOnWay[pair(v, v)] == 0) {
                return false;
            }
        }
        return true;
    }

    private int longestRun() {
        int longest = 0;
        for (int u = 0; u < blockCount; u++) {
            // A block alone is a run too.
            if (delays[u] > longest) {
                longest = delays[u];
            }
            for (int v = 0; v < blockCount; v++) {
                int at = pair(u, v);
                if (fewestOnWay[at] == 0 && slowestOfFewest[at] > longest) {
                    longest = slowestOfFewest[at];
                }
            }
        }
        return longest;
    }

    // Leaves the proposed plan in planLags and answers its period, the best one.
    private int proposePlan() {
        for (int p = 0; p < LONGEST_RUN; p++) {
            if (planFor(p)) {
                return p;
            }
        }
        planFor(LONGEST_RUN);
        return LONGEST_RUN;
    }

    // Whether a legal plan has a period of at most p; if so, planLags holds the one with the
    // greatest lags of those without a lag above 0.
    private boolean planFor(int p) {
        for (int v = 0; v < blockCount; v++) {
            planLags[v] = 0;
            if (delays[v] > p) {
                return false;
            }
        }
        // A lag is bounded by a chain through different blocks, so it is final after a round
        // for each block, unless the demands contradict each other: then they never come to rest.
        for (int round = 0; round < blockCount; round++) {
            lowerLags(p);
        }
        return !lowerLags(p);
    }

    // Lowers each lag only as far as p forces it to; answers whether one had to be lowered.
    private boolean lowerLags(int p) {
        boolean lowered = false;
        for (int u = 0; u < blockCount; u++) {
            for (int v = 0; v < blockCount; v++) {
                int at = pair(u, v);
                if (u != v && fewestOnWay[at] != NO_WAY) {
                    // A way that is too slow must keep a register; any other must not go below 0.
                    int needed = slowestOfFewest[at] > p ? 1 : 0;
                    int ceiling = planLags[v] + fewestOnWay[at] - needed;
                    if (planLags[u] > ceiling) {
                        planLags[u] = ceiling;
                        lowered = true;
                    }
                }
            }
        }
        return lowered;
    }
}
