/** A part for each promise: ordinary inputs, the edges that the document names, and wrong inputs. */
public final class PromisesTest {
    private static final Check CHECK = new Check("PromisesTest");
    private static final int LEAST = Check.LEAST;
    private static final int MOST = Check.MOST;

    public static void main(String[] args) {
        CHECK.run(PromisesTest::newObject);
        CHECK.run(PromisesTest::delay);
        CHECK.run(PromisesTest::wire);
        CHECK.run(PromisesTest::cut);
        CHECK.run(PromisesTest::sound);
        CHECK.run(PromisesTest::period);
        CHECK.run(PromisesTest::best);
        CHECK.run(PromisesTest::lag);
        CHECK.run(PromisesTest::reachable);
        CHECK.run(PromisesTest::apply);
        CHECK.run(PromisesTest::registers);
        CHECK.run(PromisesTest::registersAboveThree);
        CHECK.run(PromisesTest::fewest);
        CHECK.end();
    }

    private static int[] w(int u, int v, int registers) {
        return new int[] {u, v, registers};
    }

    private static void newObject() {
        CHECK.part("promise 1");
        int[] asked = {LEAST, -1, 0, 1, 2, 3, 4, 5, 6, MOST};
        int[] blocks = {1, 1, 1, 1, 2, 3, 4, 5, 5, 5};
        for (int at = 0; at < asked.length; at++) {
            RetimingBench x = new RetimingBench(asked[at]);
            CHECK.due(asked[at] + ": last block", x.lag(blocks[at] - 1), 0);
            CHECK.due(asked[at] + ": one more", x.lag(blocks[at]), RetimingBench.NO_BLOCK);
            CHECK.due(asked[at] + ": period()", x.period(), 0);
            CHECK.due(asked[at] + ": best()", x.best(), 0);
            CHECK.due(asked[at] + ": sound()", x.sound(), true);
            CHECK.due(asked[at] + ": registers(0)", x.registers(0), RetimingBench.BAD);
            CHECK.due(asked[at] + ": cut(0)", x.cut(0), RetimingBench.BAD);
            CHECK.due(asked[at] + ": apply()", x.apply(), 0);
            CHECK.due(asked[at] + ": first wire", x.wire(0, blocks[at] - 1, 1), 0);
        }
        RetimingBench first = CHECK.bench(7);
        RetimingBench second = new RetimingBench(1);
        CHECK.due("objects are apart: first", first.period(), 7);
        CHECK.due("objects are apart: second", second.period(), 0);
    }

    private static void delay() {
        CHECK.part("promise 2");
        RetimingBench x = new RetimingBench(3);
        CHECK.due("delay(2, 9)", x.delay(2, 9), true);
        CHECK.due("period()", x.period(), 9);
        int[] wrongBlocks = {-1, 3, 5, LEAST, MOST};
        for (int v : wrongBlocks) {
            CHECK.due("delay(" + v + ", 1)", x.delay(v, 1), false);
        }
        int[] wrongDelays = {-1, 10, LEAST, MOST};
        for (int d : wrongDelays) {
            CHECK.due("delay(2, " + d + ")", x.delay(2, d), false);
        }
        CHECK.due("period() after refusals", x.period(), 9);
        CHECK.due("delay(2, 0)", x.delay(2, 0), true);
        CHECK.due("period() after delay(2, 0)", x.period(), 0);
        CHECK.due("delay(0, 4)", x.delay(0, 4), true);
        CHECK.due("delay(0, 3)", x.delay(0, 3), true);
        CHECK.due("period() after a second setting", x.period(), 3);
    }

    private static void wire() {
        CHECK.part("promise 3");
        RetimingBench x = new RetimingBench(2);
        int[] wrongBlocks = {-1, 2, LEAST, MOST};
        for (int b : wrongBlocks) {
            CHECK.due("wire(" + b + ", 0, 1)", x.wire(b, 0, 1), RetimingBench.BAD);
            CHECK.due("wire(0, " + b + ", 1)", x.wire(0, b, 1), RetimingBench.BAD);
        }
        int[] wrongRegisters = {-1, 4, LEAST, MOST};
        for (int r : wrongRegisters) {
            CHECK.due("wire(0, 1, " + r + ")", x.wire(0, 1, r), RetimingBench.BAD);
        }
        CHECK.due("registers(0) after refusals", x.registers(0), RetimingBench.BAD);
        for (int i = 0; i < 12; i++) {
            CHECK.due("wire number " + i, x.wire(i % 2, i / 2 % 2, i % 3 + 1), i);
        }
        CHECK.due("a 13th", x.wire(0, 1, 1), RetimingBench.FULL);
        CHECK.due("FULL comes before BAD: block", x.wire(2, 0, 0), RetimingBench.FULL);
        CHECK.due("FULL comes before BAD: registers", x.wire(0, 0, 4), RetimingBench.FULL);
        CHECK.dueRegisters(x, 1, 2, 3, 1, 2, 3, 1, 2, 3, 1, 2, 3);
        CHECK.due("cut(0)", x.cut(0), 11);
        CHECK.due("there is room again, BAD", x.wire(2, 0, 0), RetimingBench.BAD);
        CHECK.due("there is room again", x.wire(0, 1, 0), 11);
        CHECK.due("the new one is the last", x.registers(11), 0);
    }

    private static void cut() {
        CHECK.part("promise 4");
        RetimingBench x = CHECK.bench(1, 2, 4);
        CHECK.due("cut(0) of none", x.cut(0), RetimingBench.BAD);
        CHECK.wires(x, w(0, 1, 0), w(1, 2, 1), w(2, 0, 2), w(1, 1, 3));
        int[] none = {-1, 4, 12, LEAST, MOST};
        for (int i : none) {
            CHECK.due("cut(" + i + ")", x.cut(i), RetimingBench.BAD);
        }
        CHECK.dueRegisters(x, 0, 1, 2, 3);
        CHECK.due("cut(1)", x.cut(1), 3);
        CHECK.dueRegisters(x, 0, 2, 3);
        CHECK.due("fewest(1, 2): the way is gone", x.fewest(1, 2), RetimingBench.FULL);
        CHECK.due("fewest(2, 1): the others kept their ends", x.fewest(2, 1), 2);
        CHECK.due("fewest(1, 1)", x.fewest(1, 1), 3);
        CHECK.due("period()", x.period(), 4);
        CHECK.due("cut(2), the last", x.cut(2), 2);
        CHECK.due("cut(2) again", x.cut(2), RetimingBench.BAD);
        CHECK.due("cut(0)", x.cut(0), 1);
        CHECK.dueRegisters(x, 2);
        CHECK.due("fewest(2, 0)", x.fewest(2, 0), 2);
        CHECK.due("cut(0)", x.cut(0), 0);
        CHECK.due("cut(0) of none", x.cut(0), RetimingBench.BAD);
        CHECK.due("wire after all are cut", x.wire(0, 1, 1), 0);

        RetimingBench full = new RetimingBench(2);
        for (int i = 0; i < 12; i++) {
            CHECK.due("wire number " + i, full.wire(0, 1, i % 4), i);
        }
        CHECK.due("cut(11) of 12", full.cut(11), 11);
        CHECK.due("cut(0) of 11", full.cut(0), 10);
        CHECK.dueRegisters(full, 1, 2, 3, 0, 1, 2, 3, 0, 1, 2);
    }

    private static void sound() {
        CHECK.part("promise 5");
        RetimingBench x = new RetimingBench(5);
        CHECK.due("no wires", x.sound(), true);
        CHECK.wires(x, w(0, 1, 0), w(1, 2, 0), w(2, 3, 0), w(3, 4, 0), w(0, 4, 0));
        CHECK.due("no circle", x.sound(), true);
        CHECK.wires(x, w(4, 0, 1));
        CHECK.due("a circle with a register", x.sound(), true);
        CHECK.wires(x, w(4, 0, 0));
        CHECK.due("a second wire makes a bare circle", x.sound(), false);
        CHECK.due("cut it", x.cut(6), 6);
        CHECK.due("sound again", x.sound(), true);
        CHECK.wires(x, w(3, 3, 1));
        CHECK.due("a block to itself with a register", x.sound(), true);
        CHECK.wires(x, w(3, 3, 0));
        CHECK.due("a block to itself without", x.sound(), false);

        RetimingBench y = new RetimingBench(4);
        CHECK.wires(y, w(2, 3, 0), w(3, 2, 0));
        CHECK.due("a bare circle away from block 0", y.sound(), false);
    }

    private static void period() {
        CHECK.part("promise 6");
        RetimingBench x = CHECK.bench(9, 9, 9, 9, 9);
        CHECK.due("a block alone is a run", x.period(), 9);
        CHECK.wires(x, w(4, 3, 0), w(3, 2, 0), w(2, 1, 0), w(1, 0, 0));
        CHECK.due("the longest there is", x.period(), 45);
        CHECK.wires(x, w(0, 4, 1));
        CHECK.due("a register ends a run", x.period(), 45);
        CHECK.due("delay(2, 0)", x.delay(2, 0), true);
        CHECK.due("a delay of 0 on the way", x.period(), 36);
        CHECK.wires(x, w(0, 4, 0));
        CHECK.due("not sound", x.period(), RetimingBench.CIRCLE);

        RetimingBench y = CHECK.bench(1, 9, 2, 1);
        CHECK.wires(y, w(0, 1, 1), w(0, 2, 0), w(1, 3, 0), w(2, 3, 0), w(0, 1, 2));
        CHECK.due("the longer of two", y.period(), 10);
        CHECK.wires(y, w(0, 1, 0));
        CHECK.due("a bare wire beside others", y.period(), 11);
        CHECK.wires(y, w(2, 1, 0));
        CHECK.due("round about is longer", y.period(), 13);
    }

    private static void best() {
        CHECK.part("promise 7");
        RetimingBench x = CHECK.bench(3, 4, 5);
        CHECK.wires(x, w(0, 1, 0), w(1, 2, 0));
        CHECK.due("no circle: the greatest delay", x.best(), 5);
        CHECK.wires(x, w(2, 0, 1));
        CHECK.due("one register in the circle", x.best(), 12);
        CHECK.due("cut(2)", x.cut(2), 2);
        CHECK.wires(x, w(2, 0, 2));
        CHECK.due("two registers in the circle", x.best(), 7);
        CHECK.due("the period is as it was", x.period(), 12);
        CHECK.wires(x, w(1, 1, 0));
        CHECK.due("not sound", x.best(), RetimingBench.CIRCLE);

        RetimingBench y = CHECK.bench(9, 9, 9, 9, 9);
        CHECK.wires(y, w(0, 1, 0), w(1, 2, 0), w(2, 3, 0), w(3, 4, 0), w(4, 0, 1));
        CHECK.due("the greatest there is", y.best(), 45);

        RetimingBench z = CHECK.bench(0, 0);
        CHECK.wires(z, w(0, 1, 0), w(1, 0, 1));
        CHECK.due("delays of 0", z.best(), 0);

        // A way with more registers than another must not bind, however slow it is.
        RetimingBench t = CHECK.bench(1, 8, 1);
        CHECK.wires(t, w(0, 1, 1), w(1, 2, 1), w(0, 2, 0), w(2, 0, 1));
        CHECK.due("two ways", t.best(), 8);
    }

    private static void lag() {
        CHECK.part("promise 8");
        RetimingBench x = CHECK.bench(9, 9, 9, 9, 9);
        CHECK.wires(x, w(0, 1, 0), w(1, 2, 0), w(2, 3, 0), w(3, 4, 0));
        CHECK.dueLags(x, -4, -3, -2, -1, 0);
        CHECK.dueRegisters(x, 0, 0, 0, 0);
        int[] wrongBlocks = {-1, 5, LEAST, MOST};
        for (int v : wrongBlocks) {
            CHECK.due("lag(" + v + ")", x.lag(v), RetimingBench.NO_BLOCK);
        }
        CHECK.wires(x, w(4, 4, 0));
        CHECK.due("not sound", x.lag(0), RetimingBench.NO_PLAN);
        CHECK.due("not sound, no such block", x.lag(5), RetimingBench.NO_BLOCK);

        RetimingBench y = CHECK.bench(1, 7, 1);
        CHECK.wires(y, w(1, 0, 0), w(1, 2, 3));
        CHECK.dueLags(y, 0, -1, 0);
        // Legality alone pulls block 2 down with block 1.
        CHECK.wires(y, w(2, 1, 0));
        CHECK.dueLags(y, 0, -1, -2);
        CHECK.due("delay(1, 0)", y.delay(1, 0), true);
        CHECK.due("best()", y.best(), 1);
        CHECK.dueLags(y, 0, 0, -1);
    }

    private static void reachable() {
        CHECK.part("promise 9");
        RetimingBench x = CHECK.bench(3, 4, 5);
        CHECK.wires(x, w(0, 1, 0), w(1, 2, 0), w(2, 0, 2));
        CHECK.due("reachable(7)", x.reachable(7), true);
        CHECK.due("reachable(6)", x.reachable(6), false);
        CHECK.due("between best and period", x.reachable(11), true);
        CHECK.due("reachable(12)", x.reachable(12), true);
        CHECK.due("reachable(0)", x.reachable(0), false);
        CHECK.due("reachable(-1)", x.reachable(-1), false);
        CHECK.due("reachable(LEAST)", x.reachable(LEAST), false);
        CHECK.due("reachable(46)", x.reachable(46), true);
        CHECK.due("reachable(MOST)", x.reachable(MOST), true);
        CHECK.dueRegisters(x, 0, 0, 2);
        CHECK.dueLags(x, -1, -1, 0);
        CHECK.wires(x, w(0, 0, 0));
        CHECK.due("not sound", x.reachable(MOST), false);

        RetimingBench y = new RetimingBench(1);
        CHECK.due("delays of 0: reachable(0)", y.reachable(0), true);
        CHECK.due("delays of 0: reachable(-1)", y.reachable(-1), false);
    }

    private static void apply() {
        CHECK.part("promise 10");
        RetimingBench grows = CHECK.bench(2, 5, 5);
        CHECK.wires(grows, w(0, 1, 0), w(0, 2, 0), w(0, 0, 1));
        CHECK.due("grows", grows.apply(), 2);
        CHECK.dueRegisters(grows, 1, 1, 1);
        CHECK.due("period()", grows.period(), 5);
        CHECK.due("again", grows.apply(), 0);
        CHECK.dueRegisters(grows, 1, 1, 1);

        RetimingBench pulled = CHECK.bench(5, 5, 5, 5);
        CHECK.wires(pulled, w(0, 2, 1), w(1, 2, 1), w(2, 3, 0));
        CHECK.due("the lag of 2 pulls 0 and 1 with it", pulled.apply(), 1);
        CHECK.dueRegisters(pulled, 1, 1, 1);

        RetimingBench below = CHECK.bench(5, 0, 0, 5);
        CHECK.wires(below, w(1, 0, 3), w(2, 0, 3), w(0, 3, 0));
        CHECK.due("grows below 0", below.apply(), -1);
        CHECK.dueRegisters(below, 2, 2, 1);
        CHECK.due("best()", below.best(), 5);
        CHECK.dueLags(below, 0, 0, 0, 0);

        CHECK.wires(below, w(3, 3, 0));
        CHECK.due("not sound", below.apply(), RetimingBench.NO_PLAN);
        CHECK.dueRegisters(below, 2, 2, 1, 0);
        RetimingBench broken = CHECK.bench(9, 9, 0);
        CHECK.wires(broken, w(0, 1, 0), w(2, 2, 0));
        CHECK.due("not sound, a run to break", broken.apply(), RetimingBench.NO_PLAN);
        CHECK.dueRegisters(broken, 0, 0);
    }

    private static void registers() {
        CHECK.part("promise 11");
        RetimingBench x = CHECK.bench(4, 4);
        CHECK.wires(x, w(0, 1, 0), w(1, 0, 3), w(0, 0, 2));
        CHECK.dueRegisters(x, 0, 3, 2);
        int[] none = {-1, 3, 11, 12, LEAST, MOST};
        for (int i : none) {
            CHECK.due("registers(" + i + ")", x.registers(i), RetimingBench.BAD);
        }
        CHECK.due("best()", x.best(), 4);
        CHECK.dueRegisters(x, 0, 3, 2);
        CHECK.due("apply()", x.apply(), 0);
        CHECK.dueRegisters(x, 1, 2, 2);
        CHECK.wires(x, w(1, 1, 0));
        CHECK.due("not sound, but there", x.registers(1), 2);
    }

    /** Only a new wire is held to 3 registers: a plan may give it more, over and over. */
    private static void registersAboveThree() {
        CHECK.part("promises 10 and 11, above 3");
        RetimingBench x = CHECK.bench(9, 9, 9, 9, 9);
        CHECK.wires(x, w(0, 4, 3));
        int want = 3;
        for (int turn = 0; turn < 40; turn++) {
            CHECK.wires(x, w(0, 1, 0), w(1, 2, 0), w(2, 3, 0), w(3, 4, 0));
            CHECK.due("apply()", x.apply(), 8);
            want += 4;
            CHECK.due("registers(0)", x.registers(0), want);
            for (int left = 4; left >= 1; left--) {
                CHECK.due("cut(1)", x.cut(1), left);
            }
        }
        CHECK.due("fewest(0, 4)", x.fewest(0, 4), want);
        CHECK.due("sound()", x.sound(), true);
        CHECK.due("best()", x.best(), 9);
    }

    private static void fewest() {
        CHECK.part("promise 12");
        RetimingBench x = new RetimingBench(5);
        CHECK.due("no wire, no way back", x.fewest(3, 3), RetimingBench.FULL);
        CHECK.wires(x, w(0, 1, 3), w(1, 2, 3), w(2, 3, 3), w(3, 4, 3));
        CHECK.due("fewest(0, 4)", x.fewest(0, 4), 12);
        CHECK.due("against the wires", x.fewest(4, 0), RetimingBench.FULL);
        CHECK.due("no circle", x.fewest(0, 0), RetimingBench.FULL);
        CHECK.wires(x, w(4, 0, 1));
        CHECK.due("fewest(0, 0) round the circle", x.fewest(0, 0), 13);
        CHECK.due("fewest(2, 1) round the circle", x.fewest(2, 1), 10);
        CHECK.wires(x, w(0, 1, 1));
        CHECK.due("the better of two wires", x.fewest(0, 1), 1);
        CHECK.wires(x, w(0, 3, 2), w(4, 4, 2));
        CHECK.due("fewest(0, 4), a short cut", x.fewest(0, 4), 5);
        CHECK.due("a block to itself", x.fewest(4, 4), 2);
        int[] wrongBlocks = {-1, 5, LEAST, MOST};
        for (int b : wrongBlocks) {
            CHECK.due("fewest(" + b + ", 0)", x.fewest(b, 0), RetimingBench.BAD);
            CHECK.due("fewest(0, " + b + ")", x.fewest(0, b), RetimingBench.BAD);
        }
        CHECK.wires(x, w(2, 2, 0));
        CHECK.due("not sound, but the way is there", x.fewest(0, 4), 5);
        CHECK.due("a bare circle", x.fewest(2, 2), 0);
        CHECK.due("a bare circle on the way", x.fewest(1, 3), 6);
    }
}
