/** Counts and prints the answers that are not the ones due, and builds the circuits that are asked about. */
final class Check {
    static final int LEAST = Integer.MIN_VALUE;
    static final int MOST = Integer.MAX_VALUE;

    private final String title;
    private String part = "";
    private int asked = 0;
    private int wrong = 0;

    Check(String title) {
        this.title = title;
    }

    void part(String name) {
        part = name;
    }

    /** Runs a test that must not keep those after it from running, even if a call throws. */
    void run(Runnable test) {
        try {
            test.run();
        } catch (RuntimeException thrown) {
            wrong++;
            System.out.println(part + ": a call threw " + thrown);
        }
    }

    void due(String call, long got, long want) {
        asked++;
        if (got != want) {
            wrong++;
            System.out.println(part + ": " + call + " answered " + got + ", due is " + want);
        }
    }

    void due(String call, boolean got, boolean want) {
        due(call, got ? 1L : 0L, want ? 1L : 0L);
    }

    /** A bench with a block for each delay. */
    RetimingBench bench(int... delays) {
        RetimingBench x = new RetimingBench(delays.length);
        for (int v = 0; v < delays.length; v++) {
            due("delay(" + v + ", " + delays[v] + ")", x.delay(v, delays[v]), true);
        }
        return x;
    }

    /** Adds wires, each given as its two blocks and its registers. */
    void wires(RetimingBench x, int[]... wires) {
        for (int[] w : wires) {
            due("wire(" + w[0] + ", " + w[1] + ", " + w[2] + ") is taken", x.wire(w[0], w[1], w[2]) >= 0, true);
        }
    }

    void dueLags(RetimingBench x, int... lags) {
        for (int v = 0; v < lags.length; v++) {
            due("lag(" + v + ")", x.lag(v), lags[v]);
        }
    }

    /** These wires, with so many registers each, and no wire more. */
    void dueRegisters(RetimingBench x, int... registers) {
        for (int i = 0; i < registers.length; i++) {
            due("registers(" + i + ")", x.registers(i), registers[i]);
        }
        due("registers(" + registers.length + ")", x.registers(registers.length), RetimingBench.BAD);
    }

    void end() {
        System.out.println(title + ": " + asked + " answers, " + wrong + " not as due");
        if (wrong != 0) {
            System.exit(1);
        }
    }
}
