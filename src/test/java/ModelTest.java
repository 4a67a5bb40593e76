/** Long mixed runs of calls, each answer held against the Model. */
public final class ModelTest {
    private static final Check CHECK = new Check("ModelTest");
    private static long seed = 20261115L;

    private static int pick(int below) {
        seed = seed * 6364136223846793005L + 1442695040888963407L;
        return (int) ((seed >>> 33) % below);
    }

    /** Mostly a number from 0 to most, now and then one outside. */
    private static int about(int most) {
        switch (pick(40)) {
            case 0: return -1;
            case 1: return most + 1;
            case 2: return pick(2) == 0 ? Integer.MIN_VALUE : Integer.MAX_VALUE;
            default: return pick(most + 1);
        }
    }

    public static void main(String[] args) {
        for (int run = 0; run < 700; run++) {
            int blocks = run % 8 - 1;
            CHECK.part("run " + run + ", " + blocks + " blocks");
            mixedRun(new RetimingBench(blocks), new Model(blocks), 20 + pick(60), pick(5));
        }
        for (int run = 0; run < 12; run++) {
            int blocks = 2 + run % 4;
            CHECK.part("long run " + run + ", " + blocks + " blocks");
            // A turn is at most two calls, and after 512 calls the answers are free.
            mixedRun(new RetimingBench(blocks), new Model(blocks), 256, 2 + run % 3);
        }
        CHECK.end();
    }

    private static void mixedRun(RetimingBench x, Model m, int turns, int bareness) {
        for (int turn = 0; turn < turns; turn++) {
            int kind = pick(20);
            if (kind < 6) {
                addWire(x, m, bareness);
            } else if (kind < 10) {
                change(x, m);
            } else {
                ask(x, m);
            }
        }
    }

    private static void addWire(RetimingBench x, Model m, int bareness) {
        int u = about(m.blocks - 1);
        int v = about(m.blocks - 1);
        int registers = pick(5) < bareness ? 0 : about(3);
        int want = m.wire(u, v, registers);
        CHECK.due("wire(" + u + ", " + v + ", " + registers + ")", x.wire(u, v, registers), want);
        // A circuit that is not sound answers little, so most bare circles are cut again at once.
        if (want >= 0 && !m.sound() && pick(8) != 0) {
            CHECK.due("cut(" + want + ")", x.cut(want), m.cut(want));
        }
    }

    private static void change(RetimingBench x, Model m) {
        int kind = pick(8);
        if (kind < 5) {
            int v = about(m.blocks - 1);
            int d = about(9);
            CHECK.due("delay(" + v + ", " + d + ")", x.delay(v, d), m.delay(v, d));
        } else if (kind < 7) {
            int i = about(Math.max(0, m.wires.size() - 1));
            CHECK.due("cut(" + i + ")", x.cut(i), m.cut(i));
        } else {
            CHECK.due("apply()", x.apply(), m.apply());
        }
    }

    private static void ask(RetimingBench x, Model m) {
        int u = about(m.blocks - 1);
        int v = about(m.blocks - 1);
        int i = about(11);
        switch (pick(7)) {
            case 0: CHECK.due("sound()", x.sound(), m.sound()); break;
            case 1: CHECK.due("period()", x.period(), m.period()); break;
            case 2: CHECK.due("best()", x.best(), m.best()); break;
            case 3: CHECK.due("lag(" + v + ")", x.lag(v), m.lag(v)); break;
            case 4: {
                int p = pick(3) == 0 ? about(45) : m.best() + pick(3) - 1;
                CHECK.due("reachable(" + p + ")", x.reachable(p), m.reachable(p));
                break;
            }
            case 5: CHECK.due("registers(" + i + ")", x.registers(i), m.registers(i)); break;
            default: CHECK.due("fewest(" + u + ", " + v + ")", x.fewest(u, v), m.fewest(u, v)); break;
        }
    }
}
