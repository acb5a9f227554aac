/**
 * Every sentence of the document that names a boundary case and refuses nothing, in a test of its own:
 * the ends of each range, the empty and the full object, the shortest and the longest way, circles,
 * and what comes to 0 or to the most there can be. Refused calls are NoChangeTest's.
 */
public final class BoundaryTest {
    private static final int ALL_BLOCKS = 4095;
    private static final int ALL_VARIABLES = 1048575;
    private static final int TOP_VARIABLE = 524288;
    private static final int[] EDGE_BLOCKS = {0, 11};
    private static final int[] EDGE_VARIABLES = {0, 19};
    /** Not 0; among them numbers whose lowest bit, byte or half is 0. */
    private static final int[] ONS = {
        1, 2, -1, -2, 256, 65536, 1 << 30, Integer.MIN_VALUE, Integer.MAX_VALUE};

    private static int wrong = 0;
    private static String sentence = "";

    private static void due(String call, int got, int want) {
        if (got != want) {
            wrong++;
            System.out.println(sentence + ": " + call + " answered " + got + ", due is " + want);
        }
    }

    private static void due(String call, boolean got, boolean want) {
        due(call, got ? 1 : 0, want ? 1 : 0);
    }

    /** A call that throws is one wrong answer, and the other sentences are still tested. */
    private static void test(String words, Runnable body) {
        sentence = words;
        try {
            body.run();
        } catch (Throwable thrown) {
            wrong++;
            System.out.println(sentence + ": a call threw " + thrown);
        }
    }

    // Objects to start from.

    /** The arcs 0 to 1, 1 to 2, up to 10 to 11. */
    private static IncrLiveness upwards() {
        IncrLiveness x = new IncrLiveness();
        for (int b = 0; b < 11; b++) {
            x.arc(b, b + 1, 1);
        }
        return x;
    }

    /** The arcs 11 to 10, 10 to 9, down to 1 to 0. */
    private static IncrLiveness downwards() {
        IncrLiveness x = new IncrLiveness();
        for (int b = 11; b > 0; b--) {
            x.arc(b, b - 1, 1);
        }
        return x;
    }

    private static IncrLiveness allArcs() {
        IncrLiveness x = new IncrLiveness();
        for (int a = 0; a < 12; a++) {
            for (int b = 0; b < 12; b++) {
                x.arc(a, b, 1);
            }
        }
        return x;
    }

    private static void allBlocks(IncrLiveness x, int uses, int sets) {
        for (int b = 0; b < 12; b++) {
            x.block(b, uses, sets);
        }
    }

    private static int arcCount(IncrLiveness x) {
        int count = 0;
        for (int a = 0; a < 12; a++) {
            for (int b = 0; b < 12; b++) {
                count += x.hasArc(a, b) ? 1 : 0;
            }
        }
        return count;
    }

    // What it is.

    private static void the512thCallIsGood() {
        IncrLiveness x = new IncrLiveness();
        for (int call = 1; call < 512; call++) {
            x.arc(call % 12, (call + 1) % 12, call % 5);
        }
        due("call 512: block(11, 1048575, 0)", x.block(11, ALL_VARIABLES, 0), 0);
        IncrLiveness y = allArcs();
        for (int call = 145; call < 512; call++) {
            y.use(11, 19, 1);
        }
        due("call 512: liveBlocks(19)", y.liveBlocks(19), ALL_BLOCKS);
    }

    // Terms.

    private static void blocksGoFrom0To11() {
        for (int b : EDGE_BLOCKS) {
            IncrLiveness x = new IncrLiveness();
            int other = 11 - b;
            due("use(" + b + ", 3, 1)", x.use(b, 3, 1), 0);
            due("set(" + b + ", 3, 1)", x.set(b, 3, 1), 0);
            due("liveIn(" + b + ")", x.liveIn(b), 8);
            due("liveBlocks(3)", x.liveBlocks(3), 1 << b);
            due("arc(" + b + ", " + other + ", 1)", x.arc(b, other, 1), 0);
            due("hasArc(" + b + ", " + other + ")", x.hasArc(b, other), true);
            due("liveOut(" + b + ")", x.liveOut(b), 0);
            due("reaching(" + other + ", 3)", x.reaching(other, 3), 1 << b);
            due("takeOver(" + other + ", " + b + ")", x.takeOver(other, b), 1);
            due("hasArc(" + other + ", " + other + ")", x.hasArc(other, other), true);
            due("cutOff(" + other + ")", x.cutOff(other), 1);
            due("block(" + b + ", 4, 0)", x.block(b, 4, 0), 0);
            due("liveIn(" + b + ") then", x.liveIn(b), 4);
        }
    }

    private static void arcToItself() {
        for (int b = 0; b < 12; b++) {
            IncrLiveness x = new IncrLiveness();
            due("arc(" + b + ", " + b + ", 1)", x.arc(b, b, 1), 0);
            due("hasArc(" + b + ", " + b + ")", x.hasArc(b, b), true);
            due("number of arcs", arcCount(x), 1);
            due("arc(" + b + ", " + b + ", 0)", x.arc(b, b, 0), 1);
            due("number of arcs then", arcCount(x), 0);
        }
    }

    private static void atMostOneArcEachWay() {
        IncrLiveness x = new IncrLiveness();
        x.arc(0, 11, 1);
        due("the second time", x.arc(0, 11, 1), 1);
        due("the other way", x.arc(11, 0, 1), 0);
        due("both ways, cutOff(0)", x.cutOff(0), 2);
        x.arc(0, 11, 1);
        x.arc(0, 11, 1);
        due("put twice, taken once", x.arc(0, 11, 0), 1);
        due("then it is gone", x.hasArc(0, 11), false);
        due("all arcs that there can be", arcCount(allArcs()), 144);
    }

    private static void variablesGoFrom0To19() {
        for (int v : EDGE_VARIABLES) {
            IncrLiveness x = new IncrLiveness();
            x.arc(0, 1, 1);
            due("use(1, " + v + ", 1)", x.use(1, v, 1), 0);
            due("set(0, " + v + ", 1)", x.set(0, v, 1), 0);
            due("liveIn(1)", x.liveIn(1), 1 << v);
            due("liveOut(0)", x.liveOut(0), 1 << v);
            due("liveIn(0)", x.liveIn(0), 0);
            due("liveBlocks(" + v + ")", x.liveBlocks(v), 2);
            due("reaching(1, " + v + ")", x.reaching(1, v), 1);
            due("use(1, " + v + ", 0)", x.use(1, v, 0), 1);
            due("set(0, " + v + ", 0)", x.set(0, v, 0), 1);
        }
    }

    private static void usedFirstIfUsedAndSet() {
        IncrLiveness x = new IncrLiveness();
        x.arc(4, 5, 1);
        x.block(5, 1, 1);
        due("liveIn(5)", x.liveIn(5), 1);
        due("liveIn(4)", x.liveIn(4), 1);
        due("liveOut(5)", x.liveOut(5), 0);
        due("what it sets is not what it used, idleSets()", x.idleSets(), 1);
        x.use(5, 0, 0);
        due("no longer used, liveIn(5)", x.liveIn(5), 0);
        due("still set", x.set(5, 0, 1), 1);
        x.use(5, 0, 1);
        x.set(5, 0, 0);
        due("no longer set, liveIn(5)", x.liveIn(5), 1);
        due("still used", x.use(5, 0, 1), 1);
    }

    private static void setsAddUpPowersOf2() {
        IncrLiveness x = new IncrLiveness();
        due("empty", x.liveIn(2), 0);
        x.use(2, 0, 1);
        due("variable 0", x.liveIn(2), 1);
        x.use(2, 19, 1);
        due("variables 0 and 19", x.liveIn(2), 524289);
        x.use(2, 0, 0);
        due("variable 19", x.liveIn(2), TOP_VARIABLE);
        for (int v = 0; v < 20; v++) {
            x.use(2, v, 1);
        }
        due("all", x.liveIn(2), ALL_VARIABLES);
        for (int v = 0; v < 20; v++) {
            due("block(2, 2 to the power " + v + ", 0)", x.block(2, 1 << v, 0), 0);
            due("liveBlocks(" + v + ")", x.liveBlocks(v), 4);
        }
    }

    private static void aWayOfLength1() {
        IncrLiveness x = new IncrLiveness();
        x.use(7, 2, 1);
        due("live without any arc, liveIn(7)", x.liveIn(7), 4);
        x.set(7, 2, 1);
        due("its one block is the last one and may set, liveIn(7)", x.liveIn(7), 4);
        due("no other block", x.liveBlocks(2), 128);
    }

    private static void aWayFollowsTheArcs() {
        IncrLiveness x = new IncrLiveness();
        x.arc(0, 1, 1);
        x.use(0, 2, 1);
        x.set(0, 3, 1);
        x.set(1, 3, 1);
        due("not backwards, liveIn(1)", x.liveIn(1), 0);
        due("not backwards, liveOut(1)", x.liveOut(1), 0);
        due("not backwards, reaching(0, 3)", x.reaching(0, 3), 0);
    }

    private static void theLongestWayUpwards() {
        IncrLiveness x = upwards();
        x.use(11, 19, 1);
        due("liveBlocks(19)", x.liveBlocks(19), ALL_BLOCKS);
        x.arc(10, 11, 0);
        due("without its last arc", x.liveBlocks(19), 1 << 11);
        x.arc(10, 11, 1);
        x.arc(0, 1, 0);
        due("without its first arc", x.liveBlocks(19), ALL_BLOCKS - 1);
    }

    private static void theLongestWayDownwards() {
        IncrLiveness x = downwards();
        x.use(0, 19, 1);
        due("liveBlocks(19)", x.liveBlocks(19), ALL_BLOCKS);
        x.arc(1, 0, 0);
        due("without its last arc", x.liveBlocks(19), 1);
        x.arc(1, 0, 1);
        x.arc(11, 10, 0);
        due("without its first arc", x.liveBlocks(19), ALL_BLOCKS - (1 << 11));
    }

    private static void theLastBlockMaySet() {
        IncrLiveness x = upwards();
        x.use(11, 0, 1);
        x.set(11, 0, 1);
        due("liveBlocks(0)", x.liveBlocks(0), ALL_BLOCKS);
    }

    private static void theFirstBlockMayNotSet() {
        IncrLiveness x = upwards();
        x.use(11, 0, 1);
        x.set(0, 0, 1);
        due("liveBlocks(0)", x.liveBlocks(0), ALL_BLOCKS - 1);
        due("at its end, liveOut(0)", x.liveOut(0), 1);
    }

    private static void noBlockBetweenMaySet() {
        for (int between = 1; between < 11; between++) {
            IncrLiveness x = upwards();
            x.use(11, 0, 1);
            x.set(between, 0, 1);
            due(between + " sets, liveBlocks(0)", x.liveBlocks(0), ALL_BLOCKS & -(2 << between));
            due(between + " sets, liveOut(" + between + ")", x.liveOut(between), 1);
            x.set(between, 0, 0);
            due(between + " sets no longer, liveBlocks(0)", x.liveBlocks(0), ALL_BLOCKS);
        }
    }

    private static void oneWayOfSeveralIsEnough() {
        IncrLiveness x = new IncrLiveness();
        x.arc(0, 1, 1);
        x.arc(0, 2, 1);
        x.arc(1, 3, 1);
        x.arc(2, 3, 1);
        x.use(3, 5, 1);
        x.set(1, 5, 1);
        due("one way is stopped, liveIn(0)", x.liveIn(0), 32);
        x.set(2, 5, 1);
        due("both ways are stopped, liveIn(0)", x.liveIn(0), 0);
        x.set(1, 5, 0);
        due("the first one is free again, liveIn(0)", x.liveIn(0), 32);
    }

    private static void aCircleKeepsNothingLive() {
        for (int length = 1; length <= 12; length++) {
            IncrLiveness x = new IncrLiveness();
            for (int b = 0; b < length; b++) {
                x.arc(b, (b + 1) % length, 1);
            }
            x.use(0, 8, 1);
            due("circle of " + length + ", liveBlocks(8)", x.liveBlocks(8), (1 << length) - 1);
            x.use(0, 8, 0);
            due("circle of " + length + ", used no longer", x.liveBlocks(8), 0);
            x.use(0, 8, 1);
            x.block(0, 0, 0);
            due("circle of " + length + ", used no longer by block", x.liveBlocks(8), 0);
        }
    }

    private static void aCircleLosesItsWayOut() {
        IncrLiveness x = new IncrLiveness();
        x.arc(0, 1, 1);
        x.arc(1, 0, 1);
        x.arc(1, 2, 1);
        x.use(2, 8, 1);
        due("liveBlocks(8)", x.liveBlocks(8), 7);
        x.arc(1, 2, 0);
        due("by arc", x.liveBlocks(8), 4);
        x.arc(1, 2, 1);
        x.cutOff(2);
        due("by cutOff", x.liveBlocks(8), 4);
        x.arc(1, 2, 1);
        x.takeOver(5, 1);
        due("by takeOver", x.liveBlocks(8), 4 + 32);
        x.cutOff(5);
        x.arc(1, 0, 1);
        x.arc(1, 2, 1);
        x.set(1, 8, 1);
        due("by set", x.liveBlocks(8), 4);
    }

    private static void liveAtTheEnd() {
        IncrLiveness x = new IncrLiveness();
        allBlocks(x, ALL_VARIABLES, 0);
        due("no arc, liveOut(0)", x.liveOut(0), 0);
        x.arc(1, 0, 1);
        due("an arc to it alone, liveOut(0)", x.liveOut(0), 0);
        x.arc(0, 0, 1);
        due("an arc to itself, liveOut(0)", x.liveOut(0), ALL_VARIABLES);
        x.block(0, 0, ALL_VARIABLES);
        due("itself, setting, liveOut(0)", x.liveOut(0), 0);
        x.arc(0, 11, 1);
        due("some block, not each, liveOut(0)", x.liveOut(0), ALL_VARIABLES);
    }

    private static void onlyASetterIsReachedFrom() {
        IncrLiveness x = allArcs();
        x.use(3, 4, 1);
        due("no setter, reaching(0, 4)", x.reaching(0, 4), 0);
        x.set(3, 4, 1);
        due("one setter, reaching(0, 4)", x.reaching(0, 4), 8);
        due("one setter, reaching(3, 4)", x.reaching(3, 4), 8);
        due("another variable, reaching(0, 5)", x.reaching(0, 5), 0);
        x.set(3, 4, 0);
        due("set no longer, reaching(0, 4)", x.reaching(0, 4), 0);
    }

    private static void reachesByTwoOrMoreBlocks() {
        IncrLiveness x = new IncrLiveness();
        x.set(6, 4, 1);
        due("a way of one block doesn't count, reaching(6, 4)", x.reaching(6, 4), 0);
        x.arc(6, 7, 1);
        due("two blocks, reaching(7, 4)", x.reaching(7, 4), 64);
        due("still not itself, reaching(6, 4)", x.reaching(6, 4), 0);
        x.arc(7, 6, 1);
        due("itself by three blocks, reaching(6, 4)", x.reaching(6, 4), 64);
        x.arc(7, 6, 0);
        x.arc(6, 6, 1);
        due("itself by the arc to itself, reaching(6, 4)", x.reaching(6, 4), 64);
    }

    private static void reachesByTheLongestWay() {
        IncrLiveness up = upwards();
        up.set(0, 19, 1);
        due("upwards, reaching(11, 19)", up.reaching(11, 19), 1);
        due("no circle yet, reaching(0, 19)", up.reaching(0, 19), 0);
        up.arc(11, 0, 1);
        due("round all blocks, reaching(0, 19)", up.reaching(0, 19), 1);
        IncrLiveness down = downwards();
        down.set(11, 0, 1);
        due("downwards, reaching(0, 0)", down.reaching(0, 0), 1 << 11);
        due("no circle yet, reaching(11, 0)", down.reaching(11, 0), 0);
        down.arc(0, 11, 1);
        due("round all blocks, reaching(11, 0)", down.reaching(11, 0), 1 << 11);
    }

    private static void theFirstAndLastReachedMaySet() {
        IncrLiveness x = upwards();
        x.set(0, 1, 1);
        x.set(11, 1, 1);
        due("reaching(11, 1)", x.reaching(11, 1), 1);
        due("between, reaching(10, 1)", x.reaching(10, 1), 1);
        IncrLiveness pair = new IncrLiveness();
        pair.arc(0, 11, 1);
        pair.block(0, 0, 2);
        pair.block(11, 0, 2);
        due("two blocks have none between, reaching(11, 1)", pair.reaching(11, 1), 1);
    }

    private static void noneStrictlyBetweenMaySet() {
        for (int between = 1; between < 11; between++) {
            IncrLiveness x = upwards();
            x.set(0, 1, 1);
            x.set(between, 1, 1);
            due(between + " sets, reaching(11, 1)", x.reaching(11, 1), 1 << between);
            due(between + " sets, reaching(" + between + ", 1)", x.reaching(between, 1), 1);
            x.arc(0, 11, 1);
            due(between + " sets, another way, reaching(11, 1)", x.reaching(11, 1), 1 | 1 << between);
        }
    }

    /** Whether a block between uses the variable is nothing to reaching. */
    private static void usersBetweenStopNothing() {
        IncrLiveness x = upwards();
        allBlocks(x, ALL_VARIABLES, 0);
        x.set(0, 1, 1);
        due("reaching(11, 1)", x.reaching(11, 1), 1);
    }

    private static void noCallThrows() {
        int[] numbers = {
            Integer.MIN_VALUE, Integer.MIN_VALUE + 1, -65536, -33, -32, -1, 0, 1, 11, 12, 19, 20, 31, 32, 33,
            4095, 4096, 1048575, 1048576, Integer.MAX_VALUE};
        for (int a : numbers) {
            for (int b : numbers) {
                for (int c : numbers) {
                    IncrLiveness x = new IncrLiveness();
                    callAll(x, a, b, c);
                    x.arc(11, 11, 1);
                    x.block(11, ALL_VARIABLES, ALL_VARIABLES);
                    callAll(x, a, b, c);
                }
            }
        }
    }

    private static void callAll(IncrLiveness x, int a, int b, int c) {
        x.arc(a, b, c);
        x.hasArc(a, b);
        x.use(a, b, c);
        x.set(a, b, c);
        x.block(a, b, c);
        x.liveIn(a);
        x.liveOut(a);
        x.liveBlocks(a);
        x.reaching(a, b);
        x.takeOver(a, b);
        x.cutOff(a);
        x.idleSets();
        x.pressure();
        x.crowded();
    }

    private static void theConstant() {
        due("BAD_ARG", IncrLiveness.BAD_ARG, -1);
    }

    // Promise 1.

    private static void newObjectHasNoArc() {
        due("number of arcs", arcCount(new IncrLiveness()), 0);
        IncrLiveness x = new IncrLiveness();
        for (int a = 0; a < 12; a++) {
            for (int b = 0; b < 12; b++) {
                due("arc(" + a + ", " + b + ", 0)", x.arc(a, b, 0), 0);
            }
        }
    }

    private static void newObjectUsesNothing() {
        IncrLiveness x = new IncrLiveness();
        for (int b = 0; b < 12; b++) {
            for (int v = 0; v < 20; v++) {
                due("use(" + b + ", " + v + ", 0)", x.use(b, v, 0), 0);
            }
        }
    }

    private static void newObjectSetsNothing() {
        IncrLiveness x = new IncrLiveness();
        for (int b = 0; b < 12; b++) {
            for (int v = 0; v < 20; v++) {
                due("set(" + b + ", " + v + ", 0)", x.set(b, v, 0), 0);
            }
        }
    }

    private static void newObjectAnswers0() {
        IncrLiveness used = allArcs();
        allBlocks(used, ALL_VARIABLES, ALL_VARIABLES);
        IncrLiveness x = new IncrLiveness();
        for (int b = 0; b < 12; b++) {
            due("liveIn(" + b + ")", x.liveIn(b), 0);
            due("liveOut(" + b + ")", x.liveOut(b), 0);
            for (int v = 0; v < 20; v++) {
                due("reaching(" + b + ", " + v + ")", x.reaching(b, v), 0);
            }
        }
        for (int v = 0; v < 20; v++) {
            due("liveBlocks(" + v + ")", x.liveBlocks(v), 0);
        }
        due("idleSets()", x.idleSets(), 0);
        due("pressure()", x.pressure(), 0);
        due("crowded()", x.crowded(), 0);
    }

    // Promises 2 and 3.

    private static void arcOnIsAnyNumberBut0() {
        for (int on : ONS) {
            IncrLiveness x = new IncrLiveness();
            due("arc(0, 11, " + on + ")", x.arc(0, 11, on), 0);
            due("then hasArc(0, 11)", x.hasArc(0, 11), true);
            due("arc(0, 11, " + on + ") again", x.arc(0, 11, on), 1);
            due("it stays, hasArc(0, 11)", x.hasArc(0, 11), true);
            due("number of arcs", arcCount(x), 1);
        }
    }

    private static void arcOn0TakesAway() {
        IncrLiveness x = allArcs();
        due("arc(11, 0, 0)", x.arc(11, 0, 0), 1);
        due("then hasArc(11, 0)", x.hasArc(11, 0), false);
        due("arc(11, 0, 0) again", x.arc(11, 0, 0), 0);
        due("number of arcs", arcCount(x), 143);
        due("put back, arc(11, 0, 1)", x.arc(11, 0, 1), 0);
    }

    private static void hasArcOneWayAlone() {
        IncrLiveness x = new IncrLiveness();
        x.arc(11, 0, 1);
        due("hasArc(11, 0)", x.hasArc(11, 0), true);
        due("hasArc(0, 11)", x.hasArc(0, 11), false);
        due("hasArc(0, 0)", x.hasArc(0, 0), false);
        due("hasArc(11, 11)", x.hasArc(11, 11), false);
    }

    // Promises 4 and 5.

    private static void useOnIsAnyNumberBut0() {
        for (int on : ONS) {
            IncrLiveness x = new IncrLiveness();
            due("use(11, 19, " + on + ")", x.use(11, 19, on), 0);
            due("then liveIn(11)", x.liveIn(11), TOP_VARIABLE);
            due("use(11, 19, " + on + ") again", x.use(11, 19, on), 1);
            due("it stays, liveIn(11)", x.liveIn(11), TOP_VARIABLE);
            due("no other block, liveBlocks(19)", x.liveBlocks(19), 1 << 11);
            due("nothing is set, set(11, 19, 0)", x.set(11, 19, 0), 0);
        }
    }

    private static void useOn0TakesAway() {
        IncrLiveness x = new IncrLiveness();
        allBlocks(x, ALL_VARIABLES, ALL_VARIABLES);
        due("use(0, 0, 0)", x.use(0, 0, 0), 1);
        due("then liveIn(0)", x.liveIn(0), ALL_VARIABLES - 1);
        due("use(0, 0, 0) again", x.use(0, 0, 0), 0);
        due("other blocks stay, liveBlocks(0)", x.liveBlocks(0), ALL_BLOCKS - 1);
        due("still set, set(0, 0, 1)", x.set(0, 0, 1), 1);
    }

    private static void setOnIsAnyNumberBut0() {
        for (int on : ONS) {
            IncrLiveness x = new IncrLiveness();
            due("set(11, 19, " + on + ")", x.set(11, 19, on), 0);
            due("then idleSets()", x.idleSets(), 1);
            due("set(11, 19, " + on + ") again", x.set(11, 19, on), 1);
            due("it stays, idleSets()", x.idleSets(), 1);
            due("nothing is used, use(11, 19, 0)", x.use(11, 19, 0), 0);
        }
    }

    private static void setOn0TakesAway() {
        IncrLiveness x = new IncrLiveness();
        allBlocks(x, ALL_VARIABLES, ALL_VARIABLES);
        due("set(0, 0, 0)", x.set(0, 0, 0), 1);
        due("then idleSets()", x.idleSets(), 239);
        due("set(0, 0, 0) again", x.set(0, 0, 0), 0);
        due("still used, use(0, 0, 1)", x.use(0, 0, 1), 1);
    }

    // Promise 6.

    private static void blockWithEmptySets() {
        IncrLiveness x = new IncrLiveness();
        allBlocks(x, ALL_VARIABLES, ALL_VARIABLES);
        due("block(11, 0, 0)", x.block(11, 0, 0), 0);
        due("liveIn(11)", x.liveIn(11), 0);
        due("idleSets()", x.idleSets(), 220);
        due("other blocks stay, liveIn(10)", x.liveIn(10), ALL_VARIABLES);
    }

    private static void blockWithFullSets() {
        IncrLiveness x = new IncrLiveness();
        due("block(0, 1048575, 0)", x.block(0, ALL_VARIABLES, 0), 0);
        due("liveIn(0)", x.liveIn(0), ALL_VARIABLES);
        due("idleSets()", x.idleSets(), 0);
        due("block(0, 0, 1048575)", x.block(0, 0, ALL_VARIABLES), 0);
        due("liveIn(0) then", x.liveIn(0), 0);
        due("idleSets() then", x.idleSets(), 20);
        due("block(0, 1048575, 1048575)", x.block(0, ALL_VARIABLES, ALL_VARIABLES), 0);
        due("liveIn(0) with both", x.liveIn(0), ALL_VARIABLES);
        due("idleSets() with both", x.idleSets(), 20);
        due("no other block, liveIn(1)", x.liveIn(1), 0);
    }

    private static void blockIsExact() {
        IncrLiveness x = new IncrLiveness();
        x.block(5, 0b0110, TOP_VARIABLE);
        due("what was before goes, block(5, 1100, 1)", x.block(5, 0b1100, 1), 0);
        for (int v = 0; v < 20; v++) {
            due("use(5, " + v + ", 0)", x.use(5, v, 0), 0b1100 >> v & 1);
            due("set(5, " + v + ", 0)", x.set(5, v, 0), 1 >> v & 1);
        }
        x.block(5, 3, 3);
        due("the same again answers 0 too", x.block(5, 3, 3), 0);
    }

    // Promise 7.

    private static void cutOffWithoutArcs() {
        IncrLiveness x = new IncrLiveness();
        x.arc(1, 2, 1);
        due("cutOff(0)", x.cutOff(0), 0);
        due("others stay, hasArc(1, 2)", x.hasArc(1, 2), true);
    }

    private static void cutOffArcToItself() {
        for (int b : EDGE_BLOCKS) {
            IncrLiveness x = new IncrLiveness();
            x.arc(b, b, 1);
            due("counted once, cutOff(" + b + ")", x.cutOff(b), 1);
            due("hasArc(" + b + ", " + b + ")", x.hasArc(b, b), false);
        }
    }

    private static void cutOffArcsToItAlone() {
        IncrLiveness x = new IncrLiveness();
        for (int a = 0; a < 11; a++) {
            x.arc(a, 11, 1);
        }
        due("cutOff(11)", x.cutOff(11), 11);
        due("number of arcs", arcCount(x), 0);
    }

    private static void cutOffArcsFromItAlone() {
        IncrLiveness x = new IncrLiveness();
        for (int b = 1; b < 12; b++) {
            x.arc(0, b, 1);
        }
        due("cutOff(0)", x.cutOff(0), 11);
        due("number of arcs", arcCount(x), 0);
    }

    private static void cutOffWithAllArcs() {
        for (int b : EDGE_BLOCKS) {
            IncrLiveness x = allArcs();
            due("cutOff(" + b + ")", x.cutOff(b), 23);
            due("number of arcs", arcCount(x), 121);
            due("cutOff(" + b + ") again", x.cutOff(b), 0);
        }
    }

    private static void cutOffTakesArcsAlone() {
        IncrLiveness x = allArcs();
        x.block(4, ALL_VARIABLES, ALL_VARIABLES);
        x.cutOff(4);
        due("it still uses, liveIn(4)", x.liveIn(4), ALL_VARIABLES);
        due("it still sets, idleSets()", x.idleSets(), 20);
        due("nobody else needs them, liveBlocks(0)", x.liveBlocks(0), 16);
    }

    // Promise 8.

    private static void takeOverOfNothing() {
        IncrLiveness x = new IncrLiveness();
        due("neither has arcs, takeOver(0, 11)", x.takeOver(0, 11), 0);
        x.arc(0, 5, 1);
        due("b alone has one, takeOver(0, 11)", x.takeOver(0, 11), 0);
        due("it stays, hasArc(0, 5)", x.hasArc(0, 5), true);
        due("number of arcs", arcCount(x), 1);
    }

    private static void takeOverOfAll() {
        for (int b : EDGE_BLOCKS) {
            IncrLiveness x = new IncrLiveness();
            int c = 11 - b;
            for (int to = 0; to < 12; to++) {
                x.arc(c, to, 1);
            }
            due("takeOver(" + b + ", " + c + ")", x.takeOver(b, c), 12);
            for (int to = 0; to < 12; to++) {
                due("hasArc(" + b + ", " + to + ")", x.hasArc(b, to), true);
                due("hasArc(" + c + ", " + to + ")", x.hasArc(c, to), false);
            }
        }
    }

    private static void takeOverOfWhatItHad() {
        IncrLiveness x = allArcs();
        due("takeOver(0, 11)", x.takeOver(0, 11), 0);
        due("number of arcs", arcCount(x), 132);
        due("c has none, hasArc(11, 0)", x.hasArc(11, 0), false);
        due("arcs to c stay, hasArc(1, 11)", x.hasArc(1, 11), true);
    }

    private static void takeOverCountsNewArcsAlone() {
        IncrLiveness x = new IncrLiveness();
        x.arc(3, 0, 1);
        x.arc(3, 1, 1);
        x.arc(4, 1, 1);
        x.arc(4, 2, 1);
        due("takeOver(3, 4)", x.takeOver(3, 4), 1);
        due("number of arcs", arcCount(x), 3);
        due("arcs that b had stay, hasArc(3, 0)", x.hasArc(3, 0), true);
        due("both had it, hasArc(3, 1)", x.hasArc(3, 1), true);
        due("the new one, hasArc(3, 2)", x.hasArc(3, 2), true);
    }

    private static void takeOverOfArcsToTheTwo() {
        IncrLiveness x = new IncrLiveness();
        x.arc(4, 4, 1);
        due("c to itself, takeOver(3, 4)", x.takeOver(3, 4), 1);
        due("hasArc(3, 4)", x.hasArc(3, 4), true);
        due("number of arcs", arcCount(x), 1);
        IncrLiveness y = new IncrLiveness();
        y.arc(4, 3, 1);
        due("c to b, takeOver(3, 4)", y.takeOver(3, 4), 1);
        due("hasArc(3, 3)", y.hasArc(3, 3), true);
        due("number of arcs", arcCount(y), 1);
    }

    private static void takeOverTakesArcsAlone() {
        IncrLiveness x = new IncrLiveness();
        x.arc(4, 5, 1);
        x.block(4, 1, 2);
        x.block(3, 4, 8);
        x.takeOver(3, 4);
        due("c still uses, use(4, 0, 1)", x.use(4, 0, 1), 1);
        due("c still sets, set(4, 1, 1)", x.set(4, 1, 1), 1);
        due("b uses as before, liveIn(3)", x.liveIn(3), 4);
        due("b sets as before, set(3, 1, 0)", x.set(3, 1, 0), 0);
        due("b sets as before, set(3, 3, 0)", x.set(3, 3, 0), 1);
    }

    // Promises 9 to 11.

    private static void liveInNoneAndAll() {
        IncrLiveness x = upwards();
        due("none used, liveIn(0)", x.liveIn(0), 0);
        x.block(11, ALL_VARIABLES, 0);
        due("all, liveIn(0)", x.liveIn(0), ALL_VARIABLES);
        due("all, liveIn(11)", x.liveIn(11), ALL_VARIABLES);
        x.block(0, 0, ALL_VARIABLES);
        due("all set, liveIn(0)", x.liveIn(0), 0);
    }

    private static void liveOutNoneAndAll() {
        IncrLiveness x = upwards();
        due("none used, liveOut(0)", x.liveOut(0), 0);
        x.block(11, ALL_VARIABLES, 0);
        due("all, liveOut(0)", x.liveOut(0), ALL_VARIABLES);
        due("nothing after it, liveOut(11)", x.liveOut(11), 0);
        x.arc(11, 0, 1);
        due("all, liveOut(11)", x.liveOut(11), ALL_VARIABLES);
    }

    private static void liveBlocksNoneAndAll() {
        IncrLiveness x = upwards();
        for (int v : EDGE_VARIABLES) {
            due("none, liveBlocks(" + v + ")", x.liveBlocks(v), 0);
            x.use(11, v, 1);
            due("all, liveBlocks(" + v + ")", x.liveBlocks(v), ALL_BLOCKS);
            x.use(11, v, 0);
            x.use(0, v, 1);
            due("the first alone, liveBlocks(" + v + ")", x.liveBlocks(v), 1);
        }
    }

    // Promise 12.

    private static void idleSetsNoneAndAll() {
        IncrLiveness x = allArcs();
        allBlocks(x, ALL_VARIABLES, 0);
        due("nothing is set", x.idleSets(), 0);
        allBlocks(x, 0, ALL_VARIABLES);
        due("all is set, nothing needed", x.idleSets(), 240);
        x.block(11, ALL_VARIABLES, ALL_VARIABLES);
        due("all is set, all needed", x.idleSets(), 0);
    }

    private static void idleAtTheEndOfTheBlock() {
        IncrLiveness x = new IncrLiveness();
        x.block(0, 1, 1);
        due("live at its begin, not at its end", x.idleSets(), 1);
        x.arc(0, 0, 1);
        due("live at its end by the arc to itself", x.idleSets(), 0);
        x.block(0, 0, 1);
        due("set again before any use", x.idleSets(), 1);
    }

    private static void idleSetsCountPairs() {
        IncrLiveness x = new IncrLiveness();
        x.set(0, 19, 1);
        x.set(11, 19, 1);
        due("one variable in two blocks", x.idleSets(), 2);
        x.set(0, 0, 1);
        due("two variables in one block", x.idleSets(), 3);
    }

    // Promise 13.

    private static void pressureNoneAndAll() {
        IncrLiveness x = new IncrLiveness();
        allBlocks(x, 0, ALL_VARIABLES);
        due("none", x.pressure(), 0);
        x.use(0, 0, 1);
        due("one", x.pressure(), 1);
        for (int b : EDGE_BLOCKS) {
            x.block(b, ALL_VARIABLES, 0);
            due("all at block " + b, x.pressure(), 20);
            x.block(b, 0, 0);
            due("none at block " + b, x.pressure(), 0);
        }
    }

    private static void pressureOfOneBlock() {
        IncrLiveness x = new IncrLiveness();
        for (int b = 0; b < 12; b++) {
            x.block(b, 1 << b, 0);
        }
        due("twelve variables, one at each block", x.pressure(), 1);
        x.block(6, 0b111, 0);
        due("three at one block", x.pressure(), 3);
    }

    private static void pressureAtTheBegin() {
        IncrLiveness x = new IncrLiveness();
        x.arc(0, 1, 1);
        x.arc(0, 2, 1);
        x.block(1, 0b0011, 0);
        x.block(2, 0b1100, 0);
        x.block(0, 0, 0b1111);
        due("four at the end of a block, two at the begin of one", x.pressure(), 2);
        x.block(0, 0, 0);
        due("four at the begin", x.pressure(), 4);
    }

    // Promise 14.

    private static void reachingNoneAndAll() {
        IncrLiveness x = allArcs();
        due("none sets, reaching(0, 19)", x.reaching(0, 19), 0);
        allBlocks(x, 0, ALL_VARIABLES);
        for (int b : EDGE_BLOCKS) {
            for (int v : EDGE_VARIABLES) {
                due("all, reaching(" + b + ", " + v + ")", x.reaching(b, v), ALL_BLOCKS);
            }
        }
        x.cutOff(0);
        due("no arc to it, reaching(0, 0)", x.reaching(0, 0), 0);
        due("no arc from 0, reaching(11, 0)", x.reaching(11, 0), ALL_BLOCKS - 1);
    }

    // Promise 15.

    private static void crowdedNoneAndAll() {
        IncrLiveness x = new IncrLiveness();
        due("none live", x.crowded(), 0);
        x.block(11, ALL_VARIABLES, 0);
        due("all at one block", x.crowded(), 190);
        allBlocks(x, ALL_VARIABLES, 0);
        due("all at each block", x.crowded(), 190);
    }

    private static void crowdedOfDifferentVariables() {
        IncrLiveness x = new IncrLiveness();
        for (int v : EDGE_VARIABLES) {
            allBlocks(x, 1 << v, 0);
            due("variable " + v + " alone, at each block", x.crowded(), 0);
        }
        x.use(11, 0, 1);
        due("variables 0 and 19 at one block", x.crowded(), 1);
        x.use(0, 0, 1);
        due("the same pair at two blocks", x.crowded(), 1);
    }

    private static void crowdedAtSomeOneBlock() {
        IncrLiveness x = new IncrLiveness();
        x.block(0, 0b011, 0);
        x.block(11, 0b110, 0);
        due("0 and 1, 1 and 2, but not 0 and 2", x.crowded(), 2);
        x.block(5, 0b101, 0);
        due("0 and 2 at a third block", x.crowded(), 3);
    }

    private static void crowdedAtTheBegin() {
        IncrLiveness x = new IncrLiveness();
        x.arc(0, 1, 1);
        x.arc(0, 2, 1);
        x.block(1, 1, 0);
        x.block(2, 2, 0);
        x.block(0, 0, 3);
        due("both at the end of a block alone", x.crowded(), 0);
        x.block(0, 0, 0);
        due("both at its begin", x.crowded(), 1);
    }

    private static void terms() {
        test("At most 512 calls", BoundaryTest::the512thCallIsGood);
        test("Blocks are numbered 0 to 11", BoundaryTest::blocksGoFrom0To11);
        test("An arc also to itself", BoundaryTest::arcToItself);
        test("At most one arc each way", BoundaryTest::atMostOneArcEachWay);
        test("Variables are numbered 0 to 19", BoundaryTest::variablesGoFrom0To19);
        test("It may do both with one; then it uses it first", BoundaryTest::usedFirstIfUsedAndSet);
        test("A set is 2 to the power v added up", BoundaryTest::setsAddUpPowersOf2);
        test("A way has length 1 or more", BoundaryTest::aWayOfLength1);
        test("An arc from each block of a way to the next", BoundaryTest::aWayFollowsTheArcs);
        test("Live by the longest way upwards", BoundaryTest::theLongestWayUpwards);
        test("Live by the longest way downwards", BoundaryTest::theLongestWayDownwards);
        test("No block but the last one sets: the last", BoundaryTest::theLastBlockMaySet);
        test("No block but the last one sets: the first", BoundaryTest::theFirstBlockMayNotSet);
        test("No block but the last one sets: between", BoundaryTest::noBlockBetweenMaySet);
        test("Live if there is a way", BoundaryTest::oneWayOfSeveralIsEnough);
        test("Live round a circle", BoundaryTest::aCircleKeepsNothingLive);
        test("Live in a circle with a way out", BoundaryTest::aCircleLosesItsWayOut);
        test("Live at the end: at the begin of some next block", BoundaryTest::liveAtTheEnd);
        test("Reaches from a if a sets v", BoundaryTest::onlyASetterIsReachedFrom);
        test("Reaches by a way of two or more blocks", BoundaryTest::reachesByTwoOrMoreBlocks);
        test("Reaches by the longest way", BoundaryTest::reachesByTheLongestWay);
        test("Strictly between: the first and the last may set", BoundaryTest::theFirstAndLastReachedMaySet);
        test("No block strictly between sets", BoundaryTest::noneStrictlyBetweenMaySet);
        test("Users between stop nothing", BoundaryTest::usersBetweenStopNothing);
        test("No call ever throws", BoundaryTest::noCallThrows);
        test("BAD_ARG = -1", BoundaryTest::theConstant);
    }

    private static void promises1To8() {
        test("1: No arc", BoundaryTest::newObjectHasNoArc);
        test("1: no block uses anything", BoundaryTest::newObjectUsesNothing);
        test("1: no block sets anything", BoundaryTest::newObjectSetsNothing);
        test("1: every question of a new object", BoundaryTest::newObjectAnswers0);
        test("2: on not 0", BoundaryTest::arcOnIsAnyNumberBut0);
        test("2: on 0", BoundaryTest::arcOn0TakesAway);
        test("3: an arc from a to b", BoundaryTest::hasArcOneWayAlone);
        test("4: on not 0", BoundaryTest::useOnIsAnyNumberBut0);
        test("4: on 0", BoundaryTest::useOn0TakesAway);
        test("5: on not 0", BoundaryTest::setOnIsAnyNumberBut0);
        test("5: on 0", BoundaryTest::setOn0TakesAway);
        test("6: uses and sets 0", BoundaryTest::blockWithEmptySets);
        test("6: uses and sets 1048575", BoundaryTest::blockWithFullSets);
        test("6: exactly", BoundaryTest::blockIsExact);
        test("7: how many there were: none", BoundaryTest::cutOffWithoutArcs);
        test("7: how many there were: to itself", BoundaryTest::cutOffArcToItself);
        test("7: all arcs to it", BoundaryTest::cutOffArcsToItAlone);
        test("7: all arcs from it", BoundaryTest::cutOffArcsFromItAlone);
        test("7: how many there were: all", BoundaryTest::cutOffWithAllArcs);
        test("7: arcs alone", BoundaryTest::cutOffTakesArcsAlone);
        test("8: c has no arc", BoundaryTest::takeOverOfNothing);
        test("8: c has all arcs, b none", BoundaryTest::takeOverOfAll);
        test("8: b had all arcs before", BoundaryTest::takeOverOfWhatItHad);
        test("8: how many arcs b did not have before", BoundaryTest::takeOverCountsNewArcsAlone);
        test("8: arcs from c to c and to b", BoundaryTest::takeOverOfArcsToTheTwo);
        test("8: arcs alone", BoundaryTest::takeOverTakesArcsAlone);
    }

    private static void promises9To15() {
        test("9: none and all", BoundaryTest::liveInNoneAndAll);
        test("10: none and all", BoundaryTest::liveOutNoneAndAll);
        test("11: none and all", BoundaryTest::liveBlocksNoneAndAll);
        test("12: none and all", BoundaryTest::idleSetsNoneAndAll);
        test("12: at the end of the block", BoundaryTest::idleAtTheEndOfTheBlock);
        test("12: pairs of a block and a variable", BoundaryTest::idleSetsCountPairs);
        test("13: none and all", BoundaryTest::pressureNoneAndAll);
        test("13: of one block", BoundaryTest::pressureOfOneBlock);
        test("13: at the begin", BoundaryTest::pressureAtTheBegin);
        test("14: none and all", BoundaryTest::reachingNoneAndAll);
        test("15: none and all", BoundaryTest::crowdedNoneAndAll);
        test("15: different variables", BoundaryTest::crowdedOfDifferentVariables);
        test("15: at some one block", BoundaryTest::crowdedAtSomeOneBlock);
        test("15: at the begin", BoundaryTest::crowdedAtTheBegin);
    }

    public static void main(String[] args) {
        terms();
        promises1To8();
        promises9To15();
        System.out.println(wrong == 0 ? "all boundary cases are as due" : wrong + " answers are not as due");
        if (wrong != 0) {
            System.exit(1);
        }
    }
}
