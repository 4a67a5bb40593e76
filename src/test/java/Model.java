import java.util.ArrayList;
import java.util.List;

/** The document's terms word for word: every run and every plan is tried. Slow, and sharing no idea with the class. */
final class Model {
    final int blocks;
    final int[] delays;
    final List<int[]> wires = new ArrayList<>();

    private boolean fresh = false;
    private int best;
    private int[] proposed;

    Model(int blocks) {
        this.blocks = Math.max(1, Math.min(5, blocks));
        this.delays = new int[this.blocks];
    }

    boolean isBlock(int v) {
        return v >= 0 && v < blocks;
    }

    boolean delay(int v, int delay) {
        if (!isBlock(v) || delay < 0 || delay > 9) {
            return false;
        }
        delays[v] = delay;
        fresh = false;
        return true;
    }

    int wire(int u, int v, int registers) {
        if (wires.size() == 12) {
            return -2;
        }
        if (!isBlock(u) || !isBlock(v) || registers < 0 || registers > 3) {
            return -1;
        }
        wires.add(new int[] {u, v, registers});
        fresh = false;
        return wires.size() - 1;
    }

    int cut(int i) {
        if (i < 0 || i >= wires.size()) {
            return -1;
        }
        wires.remove(i);
        fresh = false;
        return wires.size();
    }

    boolean sound() {
        for (int v = 0; v < blocks; v++) {
            if (bareWayBack(v)) {
                return false;
            }
        }
        return true;
    }

    private boolean bareWayBack(int from) {
        boolean[] reached = new boolean[blocks];
        for (int step = 0; step <= blocks; step++) {
            for (int[] w : wires) {
                if (w[2] == 0 && (w[0] == from || reached[w[0]])) {
                    reached[w[1]] = true;
                }
            }
        }
        return reached[from];
    }

    int period() {
        return sound() ? periodUnder(new int[blocks]) : -3;
    }

    int best() {
        if (!sound()) {
            return -3;
        }
        tryAllPlans();
        return best;
    }

    int lag(int v) {
        if (!isBlock(v)) {
            return -101;
        }
        if (!sound()) {
            return -100;
        }
        tryAllPlans();
        return proposed[v];
    }

    boolean reachable(int p) {
        return sound() && best() <= p;
    }

    int apply() {
        if (!sound()) {
            return -100;
        }
        tryAllPlans();
        int growth = 0;
        for (int[] w : wires) {
            int before = w[2];
            w[2] = before + proposed[w[1]] - proposed[w[0]];
            growth += w[2] - before;
        }
        fresh = false;
        return growth;
    }

    int registers(int i) {
        return i < 0 || i >= wires.size() ? -1 : wires.get(i)[2];
    }

    int fewest(int u, int v) {
        if (!isBlock(u) || !isBlock(v)) {
            return -1;
        }
        int none = Integer.MAX_VALUE;
        int found = none;
        int[] at = new int[blocks];
        java.util.Arrays.fill(at, none);
        at[u] = 0;
        for (int length = 1; length <= blocks; length++) {
            int[] next = new int[blocks];
            java.util.Arrays.fill(next, none);
            for (int[] w : wires) {
                if (at[w[0]] != none) {
                    next[w[1]] = Math.min(next[w[1]], at[w[0]] + w[2]);
                }
            }
            at = next;
            found = Math.min(found, at[v]);
        }
        return found == none ? -2 : found;
    }

    private boolean legal(int[] lags) {
        for (int[] w : wires) {
            if (w[2] + lags[w[1]] - lags[w[0]] < 0) {
                return false;
            }
        }
        return true;
    }

    private int periodUnder(int[] lags) {
        boolean[] bare = new boolean[blocks * blocks];
        for (int[] w : wires) {
            if (w[2] + lags[w[1]] - lags[w[0]] == 0) {
                bare[w[0] * blocks + w[1]] = true;
            }
        }
        int longest = 0;
        for (int v = 0; v < blocks; v++) {
            longest = Math.max(longest, longestFrom(v, 1 << v, bare));
        }
        return longest;
    }

    private int longestFrom(int v, int used, boolean[] bare) {
        int rest = 0;
        for (int next = 0; next < blocks; next++) {
            if (bare[v * blocks + next] && (used >> next & 1) == 0) {
                rest = Math.max(rest, longestFrom(next, used | 1 << next, bare));
            }
        }
        return delays[v] + rest;
    }

    private void tryAllPlans() {
        if (fresh) {
            return;
        }
        // No proposed lag lies below 1 - blocks; deeper ones are tried to see that they give nothing better.
        int lowest = blocks <= 3 ? -7 : -5;
        int[] lags = new int[blocks];
        java.util.Arrays.fill(lags, lowest);
        best = Integer.MAX_VALUE;
        boolean more = true;
        while (more) {
            if (legal(lags)) {
                weigh(lags);
            }
            int v = 0;
            while (v < blocks && lags[v] == 0) {
                lags[v] = lowest;
                v++;
            }
            more = v < blocks;
            if (more) {
                lags[v]++;
            }
        }
        if (!legal(proposed) || periodUnder(proposed) != best) {
            throw new IllegalStateException("the greatest lags together are no best plan");
        }
        fresh = true;
    }

    private void weigh(int[] lags) {
        int period = periodUnder(lags);
        if (period < best) {
            best = period;
            proposed = lags.clone();
        } else if (period == best) {
            for (int v = 0; v < blocks; v++) {
                proposed[v] = Math.max(proposed[v], lags[v]);
            }
        }
    }
}
