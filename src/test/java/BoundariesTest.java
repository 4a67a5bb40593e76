/** For each sentence of the document that names a boundary case a test of its own; the part's name quotes it. */
public final class BoundariesTest {
    private static final Check CHECK = new Check("BoundariesTest");
    private static final int LEAST = Check.LEAST;
    private static final int MOST = Check.MOST;
    private static final int BAD = RetimingBench.BAD;
    private static final int FULL = RetimingBench.FULL;
    private static final int CIRCLE = RetimingBench.CIRCLE;
    private static final int NO_PLAN = RetimingBench.NO_PLAN;
    private static final int NO_BLOCK = RetimingBench.NO_BLOCK;

    public static void main(String[] args) {
        whatItIs();
        termsOfTheCircuit();
        termsOfThePlan();
        promise1();
        promise2();
        promise3();
        promise4();
        promise5();
        promises6And7();
        promise8();
        promise9();
        promise10();
        promise11();
        promise12();
        CHECK.end();
    }

    private static void whatItIs() {
        CHECK.run(BoundariesTest::theLastOf512CallsOfEachKind);
        CHECK.run(BoundariesTest::refusalsUpToTheLastCall);
        CHECK.run(BoundariesTest::registersGrowUpToTheLastCall);
    }

    private static void termsOfTheCircuit() {
        CHECK.run(BoundariesTest::oneBlockToFive);
        CHECK.run(BoundariesTest::delaysFrom0To9);
        CHECK.run(BoundariesTest::upToTwelveWires);
        CHECK.run(BoundariesTest::perhapsTheSameBlock);
        CHECK.run(BoundariesTest::registersFrom0To3AtFirst);
        CHECK.run(BoundariesTest::oneOrMoreDifferentBlocks);
        CHECK.run(BoundariesTest::aWireWithoutRegisters);
        CHECK.run(BoundariesTest::everyCircleOfWires);
    }

    private static void termsOfThePlan() {
        CHECK.run(BoundariesTest::registersUnderAPlan);
        CHECK.run(BoundariesTest::noWireBelow0);
        CHECK.run(BoundariesTest::smallestPeriodOfALegalPlan);
        CHECK.run(BoundariesTest::noLagAbove0);
        CHECK.run(BoundariesTest::everyLagAsGreatAsInAnyOther);
    }

    private static void promise1() {
        CHECK.run(BoundariesTest::blocksTooFew);
        CHECK.run(BoundariesTest::blocksTooMany);
        CHECK.run(BoundariesTest::blocksAsAsked);
        CHECK.run(BoundariesTest::allDelaysAre0);
        CHECK.run(BoundariesTest::noWiresAtFirst);
    }

    private static void promise2() {
        CHECK.run(BoundariesTest::delayOfNoBlock);
        CHECK.run(BoundariesTest::delayOutOfRange);
        CHECK.run(BoundariesTest::delayElseTrue);
    }

    private static void promise3() {
        CHECK.run(BoundariesTest::fullAtTwelve);
        CHECK.run(BoundariesTest::fullIsTestedFirst);
        CHECK.run(BoundariesTest::wireFromOrToNoBlock);
        CHECK.run(BoundariesTest::wireWithWrongRegisters);
        CHECK.run(BoundariesTest::wireAnswersItsNumber);
    }

    private static void promise4() {
        CHECK.run(BoundariesTest::laterWiresMoveDown);
        CHECK.run(BoundariesTest::cutOfNone);
        CHECK.run(BoundariesTest::cutAnswersTheNumberLeft);
    }

    private static void promise5() {
        CHECK.run(BoundariesTest::soundWithoutACircle);
        CHECK.run(BoundariesTest::soundChangesWithTheWires);
    }

    private static void promises6And7() {
        CHECK.run(BoundariesTest::periodCircle);
        CHECK.run(BoundariesTest::periodAtItsEnds);
        CHECK.run(BoundariesTest::bestCircle);
        CHECK.run(BoundariesTest::bestAtItsEnds);
    }

    private static void promise8() {
        CHECK.run(BoundariesTest::lagOfNoBlock);
        CHECK.run(BoundariesTest::lagWithoutAPlan);
        CHECK.run(BoundariesTest::lagTestsTheBlockFirst);
    }

    private static void promise9() {
        CHECK.run(BoundariesTest::reachableForAnyInt);
        CHECK.run(BoundariesTest::reachableNotSound);
    }

    private static void promise10() {
        CHECK.run(BoundariesTest::growthBelow0);
        CHECK.run(BoundariesTest::growthOf0);
        CHECK.run(BoundariesTest::applyWithoutAPlan);
    }

    private static void promise11() {
        CHECK.run(BoundariesTest::registersOfNone);
    }

    private static void promise12() {
        CHECK.run(BoundariesTest::aWayOfOneWireOrMore);
        CHECK.run(BoundariesTest::fewestOfNoBlock);
        CHECK.run(BoundariesTest::fewestWithoutAWay);
        CHECK.run(BoundariesTest::fewestNeedsNoSoundCircuit);
    }

    private static int[] w(int u, int v, int registers) {
        return new int[] {u, v, registers};
    }

    /** Delays 3, 4 and 5 in a circle with two registers: period 12, best 7, lags -1, -1 and 0. Takes 6 calls. */
    private static RetimingBench threeInACircle() {
        RetimingBench x = CHECK.bench(3, 4, 5);
        CHECK.wires(x, w(0, 1, 0), w(1, 2, 0), w(2, 0, 2));
        return x;
    }

    /** The same with a bare wire from a block to itself as wire 3. */
    private static RetimingBench notSound() {
        RetimingBench x = threeInACircle();
        CHECK.wires(x, w(1, 1, 0));
        return x;
    }

    /** Delays of 9 and bare wires from each of the five blocks to the next. */
    private static RetimingBench longestChain() {
        RetimingBench x = CHECK.bench(9, 9, 9, 9, 9);
        CHECK.wires(x, w(0, 1, 0), w(1, 2, 0), w(2, 3, 0), w(3, 4, 0));
        return x;
    }

    /** Two blocks and twelve wires from 0 to 1, with 0, 1, 2, 3, 0, .. registers. */
    private static RetimingBench twelveWires() {
        RetimingBench x = new RetimingBench(2);
        for (int i = 0; i < 12; i++) {
            CHECK.due("wire number " + i, x.wire(0, 1, i % 4), i);
        }
        return x;
    }

    // What it is

    /** threeInACircle() after 511 calls. */
    private static RetimingBench after511Calls() {
        RetimingBench x = threeInACircle();
        for (int turn = 0; turn < 101; turn++) {
            CHECK.due("wire(2, 2, 3) in turn " + turn, x.wire(2, 2, 3), 3);
            CHECK.due("best() in turn " + turn, x.best(), 7);
            CHECK.due("cut(3) in turn " + turn, x.cut(3), 3);
            CHECK.due("delay(0, 3) in turn " + turn, x.delay(0, 3), true);
            CHECK.due("reachable(6) in turn " + turn, x.reachable(6), false);
        }
        return x;
    }

    private static void theLastOf512CallsOfEachKind() {
        CHECK.part("What it is, \"at most 512 calls\", the last one");
        CHECK.due("delay(2, 9)", after511Calls().delay(2, 9), true);
        CHECK.due("wire(0, 0, 1)", after511Calls().wire(0, 0, 1), 3);
        CHECK.due("cut(2)", after511Calls().cut(2), 2);
        CHECK.due("sound()", after511Calls().sound(), true);
        CHECK.due("period()", after511Calls().period(), 12);
        CHECK.due("best()", after511Calls().best(), 7);
        CHECK.due("lag(0)", after511Calls().lag(0), -1);
        CHECK.due("reachable(7)", after511Calls().reachable(7), true);
        CHECK.due("apply()", after511Calls().apply(), 0);
        CHECK.due("registers(2)", after511Calls().registers(2), 2);
        CHECK.due("fewest(0, 0)", after511Calls().fewest(0, 0), 2);
    }

    private static void refusalsUpToTheLastCall() {
        CHECK.part("What it is, \"at most 512 calls\", all refused but the last");
        RetimingBench x = new RetimingBench(2);
        for (int call = 1; call < 512; call++) {
            CHECK.due("wire(2, 0, 0) as call " + call, x.wire(2, 0, 0), BAD);
        }
        CHECK.due("wire(1, 0, 3) as call 512", x.wire(1, 0, 3), 0);
    }

    private static void registersGrowUpToTheLastCall() {
        CHECK.part("What it is, \"at most 512 calls\", registers grow all the time");
        RetimingBench x = CHECK.bench(9, 9, 9, 9, 9);
        CHECK.wires(x, w(0, 4, 3));
        int calls = 6;
        for (int turn = 1; turn <= 56; turn++) {
            CHECK.wires(x, w(0, 1, 0), w(1, 2, 0), w(2, 3, 0), w(3, 4, 0));
            CHECK.due("apply() in turn " + turn, x.apply(), 8);
            for (int left = 4; left >= 1; left--) {
                CHECK.due("cut(1) in turn " + turn, x.cut(1), left);
            }
            calls += 9;
        }
        CHECK.due("registers(0)", x.registers(0), 227);
        CHECK.due("fewest(0, 4)", x.fewest(0, 4), 227);
        CHECK.due("calls in all", calls + 2, 512);
    }

    // Terms

    private static void oneBlockToFive() {
        CHECK.part("Terms, \"n BLOCKS (1 to 5), numbered from 0\"");
        RetimingBench one = CHECK.bench(6);
        CHECK.wires(one, w(0, 0, 1));
        CHECK.due("one block: period()", one.period(), 6);
        CHECK.due("one block: lag(0)", one.lag(0), 0);
        CHECK.due("one block: fewest(0, 0)", one.fewest(0, 0), 1);
        CHECK.due("one block: delay(1, 1)", one.delay(1, 1), false);
        CHECK.due("one block: wire(0, 1, 1)", one.wire(0, 1, 1), BAD);
        CHECK.due("one block: lag(1)", one.lag(1), NO_BLOCK);
        CHECK.due("one block: fewest(0, 1)", one.fewest(0, 1), BAD);

        RetimingBench five = longestChain();
        CHECK.due("five blocks: fewest(0, 4)", five.fewest(0, 4), 0);
        CHECK.due("five blocks: lag(4)", five.lag(4), 0);
        CHECK.due("five blocks: delay(5, 1)", five.delay(5, 1), false);
        CHECK.due("five blocks: wire(5, 0, 1)", five.wire(5, 0, 1), BAD);
        CHECK.due("five blocks: lag(5)", five.lag(5), NO_BLOCK);
        CHECK.due("five blocks: fewest(5, 0)", five.fewest(5, 0), BAD);
    }

    private static void delaysFrom0To9() {
        CHECK.part("Terms, \"a DELAY from 0 to 9\"");
        RetimingBench x = CHECK.bench(0, 9, 0);
        CHECK.wires(x, w(0, 1, 0), w(1, 2, 0));
        CHECK.due("9 between two of 0: period()", x.period(), 9);
        CHECK.due("9 between two of 0: best()", x.best(), 9);
        CHECK.dueLags(x, 0, 0, 0);
        CHECK.due("delay(0, 9)", x.delay(0, 9), true);
        CHECK.due("9, 9 and 0: period()", x.period(), 18);
        CHECK.due("9, 9 and 0: best()", x.best(), 9);
        CHECK.dueLags(x, -1, 0, 0);
    }

    private static void upToTwelveWires() {
        CHECK.part("Terms, \"up to 12 WIRES\"");
        RetimingBench x = CHECK.bench(9, 9);
        for (int i = 0; i < 11; i++) {
            CHECK.due("wire number " + i, x.wire(1, 0, 3), i);
        }
        CHECK.due("period() of 11", x.period(), 9);
        CHECK.due("the twelfth", x.wire(0, 1, 0), 11);
        CHECK.due("period() of 12", x.period(), 18);
        CHECK.due("fewest(0, 1) by the twelfth", x.fewest(0, 1), 0);
        CHECK.due("best() of 12", x.best(), 9);
        CHECK.due("apply() to 12", x.apply(), -10);
        CHECK.dueRegisters(x, 2, 2, 2, 2, 2, 2, 2, 2, 2, 2, 2, 1);
        CHECK.due("cut(11)", x.cut(11), 11);
        CHECK.due("a bare circle as the twelfth", x.wire(1, 1, 0), 11);
        CHECK.due("sound() of 12", x.sound(), false);
    }

    private static void perhapsTheSameBlock() {
        CHECK.part("Terms, \"from a block to a block (perhaps the same)\"");
        RetimingBench x = CHECK.bench(4, 7);
        CHECK.due("wire(1, 1, 2)", x.wire(1, 1, 2), 0);
        CHECK.due("sound() with registers", x.sound(), true);
        CHECK.due("period(): the block once", x.period(), 7);
        CHECK.due("best()", x.best(), 7);
        CHECK.due("fewest(1, 1)", x.fewest(1, 1), 2);
        CHECK.due("fewest(0, 0)", x.fewest(0, 0), FULL);
        CHECK.due("wire(0, 0, 0)", x.wire(0, 0, 0), 1);
        CHECK.due("sound() with a bare one", x.sound(), false);
        CHECK.due("fewest(0, 0) with a bare one", x.fewest(0, 0), 0);
    }

    private static void registersFrom0To3AtFirst() {
        CHECK.part("Terms, \"REGISTERS from 0 to 3 at first\"");
        RetimingBench x = CHECK.bench(9, 9);
        CHECK.due("wire(0, 1, 0)", x.wire(0, 1, 0), 0);
        CHECK.due("wire(0, 1, 3)", x.wire(0, 1, 3), 1);
        CHECK.due("wire(0, 1, 4)", x.wire(0, 1, 4), BAD);
        CHECK.dueRegisters(x, 0, 3);
        CHECK.due("apply()", x.apply(), 2);
        CHECK.dueRegisters(x, 1, 4);
        CHECK.due("wire(0, 1, 4) still", x.wire(0, 1, 4), BAD);
        CHECK.due("cut(0)", x.cut(0), 1);
        CHECK.due("fewest(0, 1)", x.fewest(0, 1), 4);
    }

    private static void oneOrMoreDifferentBlocks() {
        CHECK.part("Terms, \"a list of one or more different blocks\"");
        RetimingBench one = CHECK.bench(2, 8, 3);
        CHECK.due("a list of one", one.period(), 8);
        CHECK.wires(one, w(0, 2, 0));
        CHECK.due("one block is longer than two", one.period(), 8);
        CHECK.due("a list of five", longestChain().period(), 45);

        RetimingBench round = CHECK.bench(5, 7);
        CHECK.wires(round, w(0, 1, 0), w(1, 0, 1), w(0, 0, 1), w(1, 1, 3));
        CHECK.due("no block twice", round.period(), 12);

        RetimingBench meeting = CHECK.bench(1, 2, 4, 8, 9);
        CHECK.wires(meeting, w(0, 1, 0), w(0, 2, 0), w(1, 3, 0), w(2, 3, 0));
        CHECK.due("two branches are not one list", meeting.period(), 13);
    }

    private static void aWireWithoutRegisters() {
        CHECK.part("Terms, \"there is a wire without registers\"");
        RetimingBench x = CHECK.bench(5, 7);
        CHECK.wires(x, w(0, 1, 1));
        CHECK.due("one register ends a run", x.period(), 7);
        CHECK.wires(x, w(0, 1, 0), w(0, 1, 3));
        CHECK.due("a bare wire between two others", x.period(), 12);
        CHECK.due("cut(1)", x.cut(1), 2);
        CHECK.due("it is gone", x.period(), 7);
        CHECK.wires(x, w(1, 0, 0));
        CHECK.due("the other way", x.period(), 12);
    }

    private static void everyCircleOfWires() {
        CHECK.part("Terms, \"in every circle of wires .. some wire has a register\"");
        for (int length = 1; length <= 5; length++) {
            for (int kept = 0; kept < length; kept++) {
                RetimingBench x = new RetimingBench(5);
                for (int v = 0; v < length; v++) {
                    CHECK.wires(x, w(v, (v + 1) % length, v == kept ? 1 : 0));
                }
                CHECK.due("a circle of " + length + ", a register on " + kept, x.sound(), true);
                CHECK.wires(x, w(kept, (kept + 1) % length, 0));
                CHECK.due("a circle of " + length + ", a bare wire beside " + kept, x.sound(), false);
            }
        }
        RetimingBench eight = new RetimingBench(3);
        CHECK.wires(eight, w(0, 1, 0), w(1, 0, 1), w(1, 2, 0), w(2, 1, 1));
        CHECK.due("two circles through one block", eight.sound(), true);
        CHECK.wires(eight, w(2, 1, 0));
        CHECK.due("one of them is bare", eight.sound(), false);
    }

    private static void registersUnderAPlan() {
        CHECK.part("Terms, \"has w + lag of v - lag of u\"");
        RetimingBench x = longestChain();
        CHECK.wires(x, w(0, 4, 3), w(0, 0, 1), w(4, 0, 3), w(1, 3, 2));
        CHECK.due("best()", x.best(), 18);
        CHECK.dueLags(x, -2, -1, -1, 0, 0);
        CHECK.due("apply()", x.apply(), 3);
        CHECK.dueRegisters(x, 1, 0, 1, 0, 5, 1, 1, 3);
    }

    private static void noWireBelow0() {
        CHECK.part("Terms, \"LEGAL iff no wire has fewer than 0 registers\"");
        RetimingBench to0 = CHECK.bench(9, 9, 0);
        CHECK.wires(to0, w(0, 1, 0), w(2, 0, 1));
        CHECK.dueLags(to0, -1, 0, 0);
        CHECK.due("apply()", to0.apply(), 0);
        CHECK.dueRegisters(to0, 1, 0);

        RetimingBench pulled = CHECK.bench(9, 9, 0);
        CHECK.wires(pulled, w(0, 1, 0), w(2, 0, 0));
        CHECK.dueLags(pulled, -1, 0, -1);

        RetimingBench circle = CHECK.bench(9, 9);
        CHECK.wires(circle, w(0, 1, 0), w(1, 0, 1));
        CHECK.due("9 would need a register on both wires", circle.best(), 18);
        CHECK.due("reachable(17)", circle.reachable(17), false);
    }

    private static void smallestPeriodOfALegalPlan() {
        CHECK.part("Terms, \"The BEST period is the smallest period of a legal plan\"");
        CHECK.due("nothing to move", CHECK.bench(1, 6, 2).best(), 6);
        CHECK.due("each block apart", longestChain().best(), 9);
        RetimingBench asItIs = CHECK.bench(3, 4);
        CHECK.wires(asItIs, w(0, 1, 0), w(1, 0, 1));
        CHECK.due("nothing to gain", asItIs.best(), 7);
        CHECK.dueLags(asItIs, 0, 0);
        RetimingBench once = CHECK.bench(3, 4, 5);
        CHECK.wires(once, w(0, 1, 0), w(1, 2, 0), w(2, 0, 3));
        CHECK.due("three registers for three blocks", once.best(), 5);
        CHECK.due("two registers for three blocks", threeInACircle().best(), 7);
    }

    private static void noLagAbove0() {
        CHECK.part("Terms, \"no lag above 0\"");
        RetimingBench x = CHECK.bench(9, 9);
        CHECK.wires(x, w(0, 1, 0));
        CHECK.dueLags(x, -1, 0);
        RetimingBench y = CHECK.bench(9, 9, 9);
        CHECK.wires(y, w(2, 1, 0), w(1, 0, 0));
        CHECK.dueLags(y, 0, -1, -2);
        CHECK.dueLags(longestChain(), -4, -3, -2, -1, 0);
    }

    private static void everyLagAsGreatAsInAnyOther() {
        CHECK.part("Terms, \"every lag is as great as in any other of them\"");
        CHECK.dueLags(CHECK.bench(5, 4, 3, 2, 1), 0, 0, 0, 0, 0);
        RetimingBench free = CHECK.bench(9, 9, 1, 1, 1);
        CHECK.wires(free, w(0, 1, 0), w(2, 3, 3));
        CHECK.dueLags(free, -1, 0, 0, 0, 0);
        RetimingBench spare = CHECK.bench(9, 9);
        CHECK.wires(spare, w(0, 1, 3), w(1, 0, 3));
        CHECK.dueLags(spare, 0, 0);
        RetimingBench late = CHECK.bench(9, 5, 4, 9);
        CHECK.wires(late, w(0, 1, 0), w(1, 2, 0), w(2, 3, 0));
        CHECK.dueLags(late, -2, -1, -1, 0);
        // A period of 27 would be met without any lag; asking for it must not change the proposed plan.
        CHECK.due("reachable(27)", late.reachable(27), true);
        CHECK.dueLags(late, -2, -1, -1, 0);
    }

    // Promise 1

    private static void dueBlocks(int asked, int blocks) {
        RetimingBench x = new RetimingBench(asked);
        CHECK.due(asked + ": lag of the last", x.lag(blocks - 1), 0);
        CHECK.due(asked + ": lag of one more", x.lag(blocks), NO_BLOCK);
        CHECK.due(asked + ": delay of the last", x.delay(blocks - 1, 1), true);
        CHECK.due(asked + ": delay of one more", x.delay(blocks, 1), false);
        CHECK.due(asked + ": fewest to the last", x.fewest(0, blocks - 1), FULL);
        CHECK.due(asked + ": fewest to one more", x.fewest(0, blocks), BAD);
        CHECK.due(asked + ": wire to one more", x.wire(0, blocks, 1), BAD);
        CHECK.due(asked + ": wire to the last", x.wire(0, blocks - 1, 1), 0);
    }

    private static void blocksTooFew() {
        CHECK.part("Promise 1, \"clamped into 1..5\", too few");
        dueBlocks(0, 1);
        dueBlocks(-1, 1);
        dueBlocks(-5, 1);
        dueBlocks(LEAST, 1);
    }

    private static void blocksTooMany() {
        CHECK.part("Promise 1, \"clamped into 1..5\", too many");
        dueBlocks(6, 5);
        dueBlocks(7, 5);
        dueBlocks(256, 5);
        dueBlocks(MOST, 5);
    }

    private static void blocksAsAsked() {
        CHECK.part("Promise 1, \"clamped into 1..5\", as asked");
        for (int blocks = 1; blocks <= 5; blocks++) {
            dueBlocks(blocks, blocks);
        }
    }

    private static void allDelaysAre0() {
        CHECK.part("Promise 1, \"All delays are 0\"");
        for (int blocks = 1; blocks <= 5; blocks++) {
            RetimingBench x = new RetimingBench(blocks);
            CHECK.due("period() of " + blocks, x.period(), 0);
            CHECK.due("best() of " + blocks, x.best(), 0);
            CHECK.due("reachable(0) of " + blocks, x.reachable(0), true);
        }
    }

    private static void noWiresAtFirst() {
        CHECK.part("Promise 1, \"no wires\"");
        RetimingBench x = new RetimingBench(5);
        for (int i = 0; i < 12; i++) {
            CHECK.due("registers(" + i + ")", x.registers(i), BAD);
        }
        CHECK.due("cut(0)", x.cut(0), BAD);
        CHECK.due("sound()", x.sound(), true);
        CHECK.due("apply()", x.apply(), 0);
        for (int u = 0; u < 5; u++) {
            for (int v = 0; v < 5; v++) {
                CHECK.due("fewest(" + u + ", " + v + ")", x.fewest(u, v), FULL);
            }
        }
        CHECK.due("wire(0, 1, 2)", x.wire(0, 1, 2), 0);
    }

    // Promise 2

    private static void delayOfNoBlock() {
        CHECK.part("Promise 2, \"v outside 0..n-1 .. refused, answers false\"");
        for (int blocks = 1; blocks <= 5; blocks++) {
            RetimingBench x = new RetimingBench(blocks);
            for (int v : new int[] {-1, blocks, blocks + 1, 5, LEAST, MOST}) {
                CHECK.due("delay(" + v + ", 9) of " + blocks, x.delay(v, 9), false);
                CHECK.due("period() of " + blocks, x.period(), 0);
            }
        }
    }

    private static void delayOutOfRange() {
        CHECK.part("Promise 2, \"delay outside 0..9: refused, answers false\"");
        RetimingBench x = CHECK.bench(4, 4);
        CHECK.wires(x, w(0, 1, 0));
        for (int v = 0; v < 2; v++) {
            for (int delay : new int[] {-1, 10, 11, 265, LEAST, MOST}) {
                CHECK.due("delay(" + v + ", " + delay + ")", x.delay(v, delay), false);
                CHECK.due("period()", x.period(), 8);
            }
        }
        CHECK.due("both wrong", x.delay(2, 10), false);
        CHECK.due("period()", x.period(), 8);
    }

    private static void delayElseTrue() {
        CHECK.part("Promise 2, \"Else true\"");
        RetimingBench x = new RetimingBench(5);
        for (int v = 0; v < 5; v++) {
            for (int delay = 9; delay >= 0; delay--) {
                CHECK.due("delay(" + v + ", " + delay + ")", x.delay(v, delay), true);
                CHECK.due("period()", x.period(), delay);
            }
        }
        RetimingBench y = notSound();
        CHECK.due("not sound: delay(1, 9)", y.delay(1, 9), true);
        CHECK.due("cut(3)", y.cut(3), 3);
        CHECK.due("period()", y.period(), 17);
    }

    // Promise 3

    private static void fullAtTwelve() {
        CHECK.part("Promise 3, \"12 wires are there: FULL\"");
        RetimingBench x = twelveWires();
        CHECK.due("a thirteenth", x.wire(1, 0, 0), FULL);
        CHECK.dueRegisters(x, 0, 1, 2, 3, 0, 1, 2, 3, 0, 1, 2, 3);
        CHECK.due("it is not there", x.fewest(1, 0), FULL);
        CHECK.due("cut(5)", x.cut(5), 11);
        CHECK.due("room for one", x.wire(1, 0, 1), 11);
        CHECK.due("no room for two", x.wire(1, 0, 1), FULL);
        CHECK.dueRegisters(x, 0, 1, 2, 3, 0, 2, 3, 0, 1, 2, 3, 1);
    }

    private static void fullIsTestedFirst() {
        CHECK.part("Promise 3, \"Tested in this order\"");
        RetimingBench x = twelveWires();
        CHECK.due("wire(-1, 0, 0)", x.wire(-1, 0, 0), FULL);
        CHECK.due("wire(0, 2, 0)", x.wire(0, 2, 0), FULL);
        CHECK.due("wire(0, 0, 4)", x.wire(0, 0, 4), FULL);
        CHECK.due("wire(LEAST, MOST, -1)", x.wire(LEAST, MOST, -1), FULL);
        CHECK.due("cut(0)", x.cut(0), 11);
        CHECK.due("wire(-1, 0, 0) of 11", x.wire(-1, 0, 0), BAD);
        CHECK.due("wire(0, 2, 0) of 11", x.wire(0, 2, 0), BAD);
        CHECK.due("wire(0, 0, 4) of 11", x.wire(0, 0, 4), BAD);
    }

    private static void wireFromOrToNoBlock() {
        CHECK.part("Promise 3, \"u or v outside 0..n-1 .. BAD\"");
        for (int blocks = 1; blocks <= 5; blocks++) {
            RetimingBench x = new RetimingBench(blocks);
            for (int b : new int[] {-1, blocks, blocks + 1, 5, LEAST, MOST}) {
                CHECK.due("wire(" + b + ", 0, 1) of " + blocks, x.wire(b, 0, 1), BAD);
                CHECK.due("wire(0, " + b + ", 1) of " + blocks, x.wire(0, b, 1), BAD);
                CHECK.due("wire(" + b + ", " + b + ", 1) of " + blocks, x.wire(b, b, 1), BAD);
            }
            CHECK.dueRegisters(x);
        }
    }

    private static void wireWithWrongRegisters() {
        CHECK.part("Promise 3, \"registers outside 0..3: BAD\"");
        RetimingBench x = new RetimingBench(2);
        for (int r : new int[] {-1, 4, 5, 256, LEAST, MOST}) {
            CHECK.due("wire(0, 1, " + r + ")", x.wire(0, 1, r), BAD);
        }
        CHECK.dueRegisters(x);
        for (int r = 0; r <= 3; r++) {
            CHECK.due("wire(0, 1, " + r + ")", x.wire(0, 1, r), r);
        }
        CHECK.dueRegisters(x, 0, 1, 2, 3);
    }

    private static void wireAnswersItsNumber() {
        CHECK.part("Promise 3, \"answers its number, from 0\"");
        RetimingBench x = twelveWires();
        for (int left = 11; left >= 0; left--) {
            CHECK.due("cut(0)", x.cut(0), left);
        }
        CHECK.due("the first again", x.wire(1, 1, 0), 0);
        CHECK.due("not sound, the next", x.wire(0, 1, 2), 1);
        CHECK.due("refused between", x.wire(0, 2, 2), BAD);
        CHECK.due("the one after", x.wire(0, 1, 3), 2);
        CHECK.dueRegisters(x, 0, 2, 3);
    }

    // Promise 4

    private static void laterWiresMoveDown() {
        CHECK.part("Promise 4, \"later ones move one down\"");
        for (int i = 0; i < 12; i++) {
            RetimingBench x = twelveWires();
            CHECK.due("cut(" + i + ")", x.cut(i), 11);
            for (int at = 0; at < 11; at++) {
                CHECK.due("cut(" + i + "), registers(" + at + ")", x.registers(at), (at < i ? at : at + 1) % 4);
            }
            CHECK.due("cut(" + i + "), registers(11)", x.registers(11), BAD);
        }
        RetimingBench ends = new RetimingBench(4);
        CHECK.wires(ends, w(0, 0, 1), w(0, 1, 2), w(2, 3, 3));
        CHECK.due("cut(0)", ends.cut(0), 2);
        CHECK.due("fewest(0, 0) is gone", ends.fewest(0, 0), FULL);
        CHECK.due("fewest(0, 1) keeps its ends", ends.fewest(0, 1), 2);
        CHECK.due("fewest(2, 3) keeps its ends", ends.fewest(2, 3), 3);
    }

    private static void cutOfNone() {
        CHECK.part("Promise 4, \"There is none: BAD\"");
        RetimingBench empty = new RetimingBench(3);
        for (int i : new int[] {-1, 0, 1, 11, 12, LEAST, MOST}) {
            CHECK.due("cut(" + i + ") of none", empty.cut(i), BAD);
        }
        CHECK.due("the first wire", empty.wire(0, 0, 1), 0);
        RetimingBench full = twelveWires();
        for (int i : new int[] {-1, 12, 13, LEAST, MOST}) {
            CHECK.due("cut(" + i + ") of 12", full.cut(i), BAD);
        }
        CHECK.dueRegisters(full, 0, 1, 2, 3, 0, 1, 2, 3, 0, 1, 2, 3);
        CHECK.due("cut(11)", full.cut(11), 11);
        CHECK.due("cut(11) again", full.cut(11), BAD);
        CHECK.dueRegisters(full, 0, 1, 2, 3, 0, 1, 2, 3, 0, 1, 2);
    }

    private static void cutAnswersTheNumberLeft() {
        CHECK.part("Promise 4, \"answers the number of wires left\"");
        RetimingBench x = twelveWires();
        for (int left = 11; left >= 0; left--) {
            CHECK.due("cut(" + left + ")", x.cut(left), left);
        }
        CHECK.due("cut(0) of none", x.cut(0), BAD);
        RetimingBench y = notSound();
        CHECK.due("not sound: cut(0)", y.cut(0), 3);
    }

    // Promise 5

    private static void soundWithoutACircle() {
        CHECK.part("Promise 5, a circuit without a circle");
        CHECK.due("no wires", new RetimingBench(1).sound(), true);
        CHECK.due("a bare chain of all blocks", longestChain().sound(), true);
        RetimingBench x = new RetimingBench(4);
        for (int u = 0; u < 4; u++) {
            for (int v = u + 1; v < 4; v++) {
                CHECK.wires(x, w(u, v, 0), w(u, v, 0));
            }
        }
        CHECK.due("twelve bare wires, all forward", x.sound(), true);
    }

    private static void soundChangesWithTheWires() {
        CHECK.part("Promise 5, a bare circle comes and goes");
        RetimingBench x = notSound();
        CHECK.due("a bare circle", x.sound(), false);
        CHECK.due("cut(3)", x.cut(3), 3);
        CHECK.due("without it", x.sound(), true);
        CHECK.due("apply()", x.apply(), 0);
        CHECK.due("after apply()", x.sound(), true);
        CHECK.due("delay(0, 0)", x.delay(0, 0), true);
        CHECK.wires(x, w(0, 0, 0));
        CHECK.due("a bare circle of a block with delay 0", x.sound(), false);
    }

    // Promises 6 and 7

    private static void periodCircle() {
        CHECK.part("Promise 6, \"CIRCLE if the circuit is not sound\"");
        RetimingBench x = notSound();
        CHECK.due("period()", x.period(), CIRCLE);
        CHECK.due("cut(3)", x.cut(3), 3);
        CHECK.due("period() without it", x.period(), 12);
        RetimingBench bare = new RetimingBench(1);
        CHECK.wires(bare, w(0, 0, 0));
        CHECK.due("delays of 0", bare.period(), CIRCLE);
        RetimingBench five = longestChain();
        CHECK.wires(five, w(4, 0, 0));
        CHECK.due("all five blocks", five.period(), CIRCLE);
    }

    private static void periodAtItsEnds() {
        CHECK.part("Promise 6, the smallest and the greatest period");
        RetimingBench x = longestChain();
        CHECK.wires(x, w(4, 0, 1), w(0, 2, 0), w(0, 4, 0), w(1, 4, 0));
        CHECK.due("the greatest", x.period(), 45);
        for (int v = 0; v < 5; v++) {
            CHECK.due("delay(" + v + ", 0)", x.delay(v, 0), true);
            CHECK.due("period()", x.period(), 36 - 9 * v);
        }
    }

    private static void bestCircle() {
        CHECK.part("Promise 7, \"CIRCLE if the circuit is not sound\"");
        RetimingBench x = notSound();
        CHECK.due("best()", x.best(), CIRCLE);
        CHECK.due("cut(3)", x.cut(3), 3);
        CHECK.due("best() without it", x.best(), 7);
        RetimingBench bare = new RetimingBench(1);
        CHECK.wires(bare, w(0, 0, 0));
        CHECK.due("delays of 0", bare.best(), CIRCLE);
        RetimingBench five = longestChain();
        CHECK.wires(five, w(4, 0, 0));
        CHECK.due("all five blocks", five.best(), CIRCLE);
    }

    private static void bestAtItsEnds() {
        CHECK.part("Promise 7, the smallest and the greatest best period");
        RetimingBench x = longestChain();
        CHECK.wires(x, w(4, 0, 1));
        CHECK.due("the greatest", x.best(), 45);
        CHECK.dueLags(x, 0, 0, 0, 0, 0);
        for (int v = 0; v < 5; v++) {
            CHECK.due("delay(" + v + ", 0)", x.delay(v, 0), true);
            CHECK.due("best()", x.best(), 36 - 9 * v);
        }
        CHECK.dueRegisters(x, 0, 0, 0, 0, 1);
    }

    // Promise 8

    private static void lagOfNoBlock() {
        CHECK.part("Promise 8, \"v outside 0..n-1: NO_BLOCK\"");
        for (int blocks = 1; blocks <= 5; blocks++) {
            RetimingBench x = new RetimingBench(blocks);
            for (int v : new int[] {-1, blocks, blocks + 1, 5, LEAST, MOST}) {
                CHECK.due("lag(" + v + ") of " + blocks, x.lag(v), NO_BLOCK);
            }
            CHECK.due("lag(0) of " + blocks, x.lag(0), 0);
            CHECK.due("the last of " + blocks, x.lag(blocks - 1), 0);
        }
    }

    private static void lagWithoutAPlan() {
        CHECK.part("Promise 8, \"the circuit is not sound: NO_PLAN\"");
        RetimingBench x = notSound();
        CHECK.dueLags(x, NO_PLAN, NO_PLAN, NO_PLAN);
        CHECK.due("cut(3)", x.cut(3), 3);
        CHECK.dueLags(x, -1, -1, 0);
    }

    private static void lagTestsTheBlockFirst() {
        CHECK.part("Promise 8, \"Tested in this order\"");
        RetimingBench x = notSound();
        for (int v : new int[] {-1, 3, 5, LEAST, MOST}) {
            CHECK.due("not sound: lag(" + v + ")", x.lag(v), NO_BLOCK);
        }
    }

    // Promise 9

    private static void reachableForAnyInt() {
        CHECK.part("Promise 9, \"at most p (any int)\"");
        RetimingBench x = threeInACircle();
        for (int p = -20; p <= 60; p++) {
            CHECK.due("reachable(" + p + ")", x.reachable(p), p >= 7);
        }
        for (int far = 0; far < 3; far++) {
            CHECK.due("reachable(LEAST + " + far + ")", x.reachable(LEAST + far), false);
            CHECK.due("reachable(MOST - " + far + ")", x.reachable(MOST - far), true);
        }
        RetimingBench zero = new RetimingBench(2);
        CHECK.wires(zero, w(0, 1, 0));
        CHECK.due("delays of 0: reachable(-1)", zero.reachable(-1), false);
        CHECK.due("delays of 0: reachable(LEAST)", zero.reachable(LEAST), false);
        CHECK.due("delays of 0: reachable(0)", zero.reachable(0), true);
        RetimingBench most = longestChain();
        CHECK.wires(most, w(4, 0, 1));
        CHECK.due("the greatest best: reachable(44)", most.reachable(44), false);
        CHECK.due("the greatest best: reachable(45)", most.reachable(45), true);
        RetimingBench alone = CHECK.bench(9);
        CHECK.due("one block: reachable(8)", alone.reachable(8), false);
        CHECK.due("one block: reachable(9)", alone.reachable(9), true);
    }

    private static void reachableNotSound() {
        CHECK.part("Promise 9, \"false if the circuit is not sound\"");
        RetimingBench x = notSound();
        for (int p : new int[] {LEAST, -1, 0, 7, 12, 45, 46, MOST}) {
            CHECK.due("reachable(" + p + ")", x.reachable(p), false);
        }
        CHECK.due("cut(3)", x.cut(3), 3);
        CHECK.due("reachable(7) without it", x.reachable(7), true);
    }

    // Promise 10

    private static void growthBelow0() {
        CHECK.part("Promise 10, \"(it may be below 0)\"");
        RetimingBench x = longestChain();
        for (int i = 4; i < 12; i++) {
            CHECK.due("wire number " + i, x.wire(4, 0, 3), i);
        }
        CHECK.due("apply()", x.apply(), -14);
        CHECK.dueRegisters(x, 1, 0, 1, 0, 1, 1, 1, 1, 1, 1, 1, 1);
        CHECK.due("period()", x.period(), 18);
        RetimingBench byOne = CHECK.bench(5, 0, 0, 5);
        CHECK.wires(byOne, w(1, 0, 3), w(2, 0, 3), w(0, 3, 0));
        CHECK.due("apply(), as BAD is", byOne.apply(), -1);
        CHECK.dueRegisters(byOne, 2, 2, 1);
    }

    private static void growthOf0() {
        CHECK.part("Promise 10, \"by how much the number of all registers grew\", not at all");
        CHECK.due("no wires", CHECK.bench(1, 2, 3).apply(), 0);
        RetimingBench moved = threeInACircle();
        CHECK.due("one has moved", moved.apply(), 0);
        CHECK.dueRegisters(moved, 0, 1, 1);
        CHECK.due("period()", moved.period(), 7);
        CHECK.due("applied again", moved.apply(), 0);
        CHECK.dueRegisters(moved, 0, 1, 1);
        RetimingBench own = CHECK.bench(9);
        CHECK.wires(own, w(0, 0, 2));
        CHECK.due("a block to itself", own.apply(), 0);
        CHECK.dueRegisters(own, 2);
    }

    private static void applyWithoutAPlan() {
        CHECK.part("Promise 10, \"NO_PLAN if the circuit is not sound (and nothing changes)\"");
        RetimingBench x = notSound();
        CHECK.due("apply()", x.apply(), NO_PLAN);
        CHECK.dueRegisters(x, 0, 0, 2, 0);
        CHECK.due("apply() again", x.apply(), NO_PLAN);
        CHECK.due("cut(3)", x.cut(3), 3);
        CHECK.dueRegisters(x, 0, 0, 2);
        CHECK.due("period() as before", x.period(), 12);
        CHECK.dueLags(x, -1, -1, 0);
        // The plan of an earlier, sound circuit must not be used either.
        CHECK.wires(x, w(2, 2, 0));
        CHECK.due("apply() after a plan was asked for", x.apply(), NO_PLAN);
        CHECK.dueRegisters(x, 0, 0, 2, 0);
    }

    // Promise 11

    private static void registersOfNone() {
        CHECK.part("Promise 11, \"BAD if there is none\"");
        RetimingBench x = new RetimingBench(2);
        for (int i : new int[] {-1, 0, 1, 11, 12, LEAST, MOST}) {
            CHECK.due("registers(" + i + ") of none", x.registers(i), BAD);
        }
        CHECK.wires(x, w(0, 1, 3));
        for (int i : new int[] {-1, 1, 2, 11, 12, LEAST, MOST}) {
            CHECK.due("registers(" + i + ") of one", x.registers(i), BAD);
        }
        CHECK.due("registers(0) of one", x.registers(0), 3);
        CHECK.due("cut(0)", x.cut(0), 0);
        CHECK.due("registers(0) after the cut", x.registers(0), BAD);
        RetimingBench full = twelveWires();
        CHECK.due("registers(11) of 12", full.registers(11), 3);
        for (int i : new int[] {-1, 12, 13, LEAST, MOST}) {
            CHECK.due("registers(" + i + ") of 12", full.registers(i), BAD);
        }
    }

    // Promise 12

    private static void aWayOfOneWireOrMore() {
        CHECK.part("Promise 12, \"a way of one wire or more\"");
        RetimingBench x = new RetimingBench(5);
        CHECK.wires(x, w(0, 1, 3), w(1, 2, 3), w(2, 3, 3), w(3, 4, 3));
        CHECK.due("one wire", x.fewest(0, 1), 3);
        CHECK.due("four wires", x.fewest(0, 4), 12);
        CHECK.due("staying is no way", x.fewest(2, 2), FULL);
        CHECK.wires(x, w(4, 0, 3));
        for (int v = 0; v < 5; v++) {
            CHECK.due("five wires, back to " + v, x.fewest(v, v), 15);
        }
        CHECK.wires(x, w(2, 2, 0));
        CHECK.due("one bare wire back to 2", x.fewest(2, 2), 0);
        CHECK.due("back to 1 is as it was", x.fewest(1, 1), 15);
        CHECK.wires(x, w(1, 3, 1));
        CHECK.due("two wires against three", x.fewest(0, 3), 4);
        CHECK.wires(x, w(0, 3, 3), w(0, 3, 2));
        CHECK.due("the best of three ways", x.fewest(0, 3), 2);
    }

    private static void fewestOfNoBlock() {
        CHECK.part("Promise 12, \"BAD for a number outside 0..n-1\"");
        for (int blocks = 1; blocks <= 5; blocks++) {
            RetimingBench x = new RetimingBench(blocks);
            CHECK.wires(x, w(0, 0, 1));
            for (int b : new int[] {-1, blocks, blocks + 1, 5, LEAST, MOST}) {
                CHECK.due("fewest(" + b + ", 0) of " + blocks, x.fewest(b, 0), BAD);
                CHECK.due("fewest(0, " + b + ") of " + blocks, x.fewest(0, b), BAD);
                CHECK.due("fewest(" + b + ", " + b + ") of " + blocks, x.fewest(b, b), BAD);
            }
            CHECK.due("fewest(0, 0) of " + blocks, x.fewest(0, 0), 1);
        }
    }

    private static void fewestWithoutAWay() {
        CHECK.part("Promise 12, \"FULL if there is no way\"");
        RetimingBench x = new RetimingBench(5);
        CHECK.wires(x, w(0, 1, 0), w(1, 2, 0), w(3, 4, 1));
        CHECK.due("against the wires", x.fewest(2, 0), FULL);
        CHECK.due("from one part to another", x.fewest(0, 4), FULL);
        CHECK.due("no circle", x.fewest(1, 1), FULL);
        CHECK.wires(x, w(2, 3, 2));
        CHECK.due("the parts are joined", x.fewest(0, 4), 3);
        CHECK.due("cut(1)", x.cut(1), 3);
        CHECK.due("they are apart again", x.fewest(0, 4), FULL);
    }

    private static void fewestNeedsNoSoundCircuit() {
        CHECK.part("Promise 12, in a circuit that is not sound");
        RetimingBench x = notSound();
        CHECK.due("fewest(0, 0)", x.fewest(0, 0), 2);
        CHECK.due("fewest(1, 1)", x.fewest(1, 1), 0);
        CHECK.due("fewest(0, 2)", x.fewest(0, 2), 0);
        CHECK.due("fewest(2, 1)", x.fewest(2, 1), 2);
        CHECK.due("fewest(3, 0)", x.fewest(3, 0), BAD);
        RetimingBench apart = new RetimingBench(3);
        CHECK.wires(apart, w(0, 1, 0), w(1, 0, 0));
        CHECK.due("fewest(0, 2)", apart.fewest(0, 2), FULL);
    }
}
