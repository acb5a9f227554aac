import java.util.ArrayList;
import java.util.Arrays;
import java.util.List;
import java.util.function.ToIntFunction;

/**
 * "A refused call answers the code named and changes nothing": every sentence of the document that
 * refuses a call has a test of its own, in an empty, a mixed and a full object. After the call all
 * that the object holds is read and compared. Questions, too, change nothing.
 */
public final class NoChangeTest {
    private static final int BLOCKS = 12;
    private static final int VARIABLES = 20;
    private static final int ALL_BLOCKS = 4095;
    private static final int ALL_VARIABLES = 1048575;
    private static final int BAD = -1;

    /** Among them numbers that a shift, a byte or a short would take for one of 0 to 11. */
    private static final int[] NO_BLOCKS = {
        -1, -2, -12, -21, -32, 12, 13, 19, 20, 31, 32, 43, 64, 256, 65536, 1 << 30,
        Integer.MIN_VALUE, Integer.MIN_VALUE + 11, Integer.MAX_VALUE};
    private static final int[] NO_VARIABLES = {
        -1, -2, -13, -20, -32, 20, 21, 31, 32, 51, 64, 256, 65536, 1 << 30,
        Integer.MIN_VALUE, Integer.MIN_VALUE + 19, Integer.MAX_VALUE};
    private static final int[] NO_SETS = {
        -1, -2, -1048576, 1048576, 1048577, 2097151, 1 << 30,
        Integer.MIN_VALUE, Integer.MIN_VALUE + 1, Integer.MAX_VALUE};
    private static final int[] EDGE_BLOCKS = {0, 11};
    private static final int[] EDGE_VARIABLES = {0, 19};
    private static final int[] SOME_SETS = {0, 349525, ALL_VARIABLES};

    private static final State[] STATES = {empty(), mixed(), full()};
    private static int wrong = 0;
    private static String sentence = "";

    /** What an object holds, known from the calls that made it, not from its answers. */
    private static final class State {
        final String name;
        final int[] arcs = new int[BLOCKS];
        final int[] uses = new int[BLOCKS];
        final int[] sets = new int[BLOCKS];
        List<int[]> readings;

        State(String name) {
            this.name = name;
        }

        IncrLiveness make() {
            IncrLiveness x = new IncrLiveness();
            for (int b = 0; b < BLOCKS; b++) {
                for (int to = 0; to < BLOCKS; to++) {
                    if ((arcs[b] >> to & 1) == 1) {
                        x.arc(b, to, 1);
                    }
                }
                if (uses[b] != 0 || sets[b] != 0) {
                    x.block(b, uses[b], sets[b]);
                }
            }
            return x;
        }
    }

    private static State empty() {
        return new State("empty");
    }

    /** A circle through all blocks, arcs to themselves and across, and variables used, set or both. */
    private static State mixed() {
        State s = new State("mixed");
        for (int b = 0; b < BLOCKS; b++) {
            s.arcs[b] = 1 << (b + 1) % BLOCKS | 1 << b * 5 % BLOCKS;
            s.uses[b] = 1 << b * 7 % VARIABLES | 1 << 19 - b;
            s.sets[b] = 1 << b * 7 % VARIABLES | 1 << b * 3 % VARIABLES | 1 << (b + 9) % VARIABLES;
        }
        s.arcs[0] |= 1 << 11;
        return s;
    }

    private static State full() {
        State s = new State("full");
        Arrays.fill(s.arcs, ALL_BLOCKS);
        Arrays.fill(s.uses, ALL_VARIABLES);
        Arrays.fill(s.sets, ALL_VARIABLES);
        return s;
    }

    // Reading all that an object holds; in four parts, for an object is good for 512 calls alone.

    private static int[] readArcs(IncrLiveness x) {
        int[] arcs = new int[BLOCKS];
        for (int a = 0; a < BLOCKS; a++) {
            for (int b = 0; b < BLOCKS; b++) {
                arcs[a] += x.hasArc(a, b) ? 1 << b : 0;
            }
        }
        return arcs;
    }

    private static int[] readUses(IncrLiveness x) {
        int[] uses = new int[BLOCKS];
        for (int b = 0; b < BLOCKS; b++) {
            for (int v = 0; v < VARIABLES; v++) {
                uses[b] += x.use(b, v, 0) << v;
            }
        }
        return uses;
    }

    private static int[] readSets(IncrLiveness x) {
        int[] sets = new int[BLOCKS];
        for (int b = 0; b < BLOCKS; b++) {
            for (int v = 0; v < VARIABLES; v++) {
                sets[b] += x.set(b, v, 0) << v;
            }
        }
        return sets;
    }

    private static int[] readQuestions(IncrLiveness x) {
        int[] answers = new int[2 * BLOCKS + VARIABLES + BLOCKS * VARIABLES + 3];
        int n = 0;
        for (int b = 0; b < BLOCKS; b++) {
            answers[n++] = x.liveIn(b);
            answers[n++] = x.liveOut(b);
        }
        for (int v = 0; v < VARIABLES; v++) {
            answers[n++] = x.liveBlocks(v);
            for (int b = 0; b < BLOCKS; b++) {
                answers[n++] = x.reaching(b, v);
            }
        }
        answers[n++] = x.idleSets();
        answers[n++] = x.pressure();
        answers[n++] = x.crowded();
        return answers;
    }

    /** Each part is read from a new object in which the call has been made first. */
    private static List<int[]> readAfter(State state, ToIntFunction<IncrLiveness> call) {
        List<int[]> readings = new ArrayList<>();
        for (int part = 0; part < 4; part++) {
            IncrLiveness x = state.make();
            call.applyAsInt(x);
            readings.add(switch (part) {
                case 0 -> readArcs(x);
                case 1 -> readUses(x);
                case 2 -> readSets(x);
                default -> readQuestions(x);
            });
        }
        return readings;
    }

    private static boolean same(List<int[]> some, List<int[]> others) {
        for (int i = 0; i < some.size(); i++) {
            if (!Arrays.equals(some.get(i), others.get(i))) {
                return false;
            }
        }
        return true;
    }

    private static void fail(State state, String call, String what) {
        wrong++;
        System.out.println(sentence + ": " + state.name + " object, " + call + " " + what);
    }

    private static void unchanged(State state, String call, ToIntFunction<IncrLiveness> made) {
        if (!same(readAfter(state, made), state.readings)) {
            fail(state, call, "changed the object");
        }
    }

    private static void refused(String call, ToIntFunction<IncrLiveness> made) {
        answeredWithoutChange(call, made, BAD);
    }

    private static void answeredWithoutChange(String call, ToIntFunction<IncrLiveness> made, int want) {
        for (State state : STATES) {
            try {
                int got = made.applyAsInt(state.make());
                if (got != want) {
                    fail(state, call, "answered " + got + ", due is " + want);
                }
                unchanged(state, call, made);
            } catch (Throwable thrown) {
                fail(state, call, "threw " + thrown);
            }
        }
    }

    private static void theObjectsHoldWhatTheyShould() {
        sentence = "the objects of this test";
        for (State state : STATES) {
            state.readings = readAfter(state, x -> 0);
            List<int[]> held = List.of(state.arcs, state.uses, state.sets);
            if (!same(held, state.readings)) {
                fail(state, "making it", "gave another state");
            }
        }
    }

    // The sentences that refuse a call, one method each.

    private static void arcFromNoBlock() {
        sentence = "2: BAD_ARG if a is not 0 to 11";
        for (int a : NO_BLOCKS) {
            for (int b : EDGE_BLOCKS) {
                refused("arc(" + a + ", " + b + ", 1)", x -> x.arc(a, b, 1));
                refused("arc(" + a + ", " + b + ", 0)", x -> x.arc(a, b, 0));
            }
        }
    }

    private static void arcToNoBlock() {
        sentence = "2: BAD_ARG if b is not 0 to 11";
        for (int b : NO_BLOCKS) {
            for (int a : EDGE_BLOCKS) {
                refused("arc(" + a + ", " + b + ", 1)", x -> x.arc(a, b, 1));
                refused("arc(" + a + ", " + b + ", 0)", x -> x.arc(a, b, 0));
            }
        }
    }

    private static void arcBetweenNoBlocks() {
        sentence = "2: BAD_ARG if neither a nor b is 0 to 11";
        for (int b : NO_BLOCKS) {
            refused("arc(" + b + ", " + b + ", 1)", x -> x.arc(b, b, 1));
            refused("arc(-1, " + b + ", 0)", x -> x.arc(-1, b, 0));
        }
    }

    private static void hasArcOfNoBlocks() {
        sentence = "3: false if there are no such blocks";
        for (int none : NO_BLOCKS) {
            for (int b : EDGE_BLOCKS) {
                answeredWithoutChange("hasArc(" + none + ", " + b + ")", x -> x.hasArc(none, b) ? 1 : 0, 0);
                answeredWithoutChange("hasArc(" + b + ", " + none + ")", x -> x.hasArc(b, none) ? 1 : 0, 0);
            }
            answeredWithoutChange("hasArc(" + none + ", " + none + ")", x -> x.hasArc(none, none) ? 1 : 0, 0);
        }
    }

    private static void useInNoBlock() {
        sentence = "4: BAD_ARG if b is not 0 to 11";
        for (int b : NO_BLOCKS) {
            for (int v : EDGE_VARIABLES) {
                refused("use(" + b + ", " + v + ", 1)", x -> x.use(b, v, 1));
                refused("use(" + b + ", " + v + ", 0)", x -> x.use(b, v, 0));
            }
        }
    }

    private static void useOfNoVariable() {
        sentence = "4: BAD_ARG if v is not 0 to 19";
        for (int v : NO_VARIABLES) {
            for (int b : EDGE_BLOCKS) {
                refused("use(" + b + ", " + v + ", 1)", x -> x.use(b, v, 1));
                refused("use(" + b + ", " + v + ", 0)", x -> x.use(b, v, 0));
            }
            refused("use(-1, " + v + ", 1)", x -> x.use(-1, v, 1));
            refused("use(12, " + v + ", 0)", x -> x.use(12, v, 0));
        }
    }

    private static void setInNoBlock() {
        sentence = "5: BAD_ARG if b is not 0 to 11";
        for (int b : NO_BLOCKS) {
            for (int v : EDGE_VARIABLES) {
                refused("set(" + b + ", " + v + ", 1)", x -> x.set(b, v, 1));
                refused("set(" + b + ", " + v + ", 0)", x -> x.set(b, v, 0));
            }
        }
    }

    private static void setOfNoVariable() {
        sentence = "5: BAD_ARG if v is not 0 to 19";
        for (int v : NO_VARIABLES) {
            for (int b : EDGE_BLOCKS) {
                refused("set(" + b + ", " + v + ", 1)", x -> x.set(b, v, 1));
                refused("set(" + b + ", " + v + ", 0)", x -> x.set(b, v, 0));
            }
            refused("set(-1, " + v + ", 1)", x -> x.set(-1, v, 1));
            refused("set(12, " + v + ", 0)", x -> x.set(12, v, 0));
        }
    }

    private static void blockOfNoBlock() {
        sentence = "6: BAD_ARG if b is not 0 to 11";
        for (int b : NO_BLOCKS) {
            for (int s : SOME_SETS) {
                refused("block(" + b + ", " + s + ", " + s + ")", x -> x.block(b, s, s));
            }
        }
    }

    private static void blockWithNoUses() {
        sentence = "6: BAD_ARG if uses is not 0 to 1048575";
        for (int uses : NO_SETS) {
            for (int sets : SOME_SETS) {
                for (int b : EDGE_BLOCKS) {
                    refused("block(" + b + ", " + uses + ", " + sets + ")", x -> x.block(b, uses, sets));
                }
            }
        }
    }

    /** Here the uses alone would be good: they must not be taken either. */
    private static void blockWithNoSets() {
        sentence = "6: BAD_ARG if sets is not 0 to 1048575";
        for (int sets : NO_SETS) {
            for (int uses : SOME_SETS) {
                for (int b : EDGE_BLOCKS) {
                    refused("block(" + b + ", " + uses + ", " + sets + ")", x -> x.block(b, uses, sets));
                }
            }
        }
    }

    private static void blockWithNeitherSet() {
        sentence = "6: BAD_ARG if neither uses nor sets is 0 to 1048575";
        for (int s : NO_SETS) {
            refused("block(0, " + s + ", " + s + ")", x -> x.block(0, s, s));
            refused("block(11, " + s + ", -1)", x -> x.block(11, s, -1));
        }
    }

    private static void cutOffOfNoBlock() {
        sentence = "7: BAD_ARG if b is not 0 to 11";
        for (int b : NO_BLOCKS) {
            refused("cutOff(" + b + ")", x -> x.cutOff(b));
        }
    }

    private static void takeOverByNoBlock() {
        sentence = "8: BAD_ARG if b is not 0 to 11";
        for (int b : NO_BLOCKS) {
            for (int c : EDGE_BLOCKS) {
                refused("takeOver(" + b + ", " + c + ")", x -> x.takeOver(b, c));
            }
        }
    }

    private static void takeOverFromNoBlock() {
        sentence = "8: BAD_ARG if c is not 0 to 11";
        for (int c : NO_BLOCKS) {
            for (int b : EDGE_BLOCKS) {
                refused("takeOver(" + b + ", " + c + ")", x -> x.takeOver(b, c));
            }
        }
    }

    private static void takeOverBetweenNoBlocks() {
        sentence = "8: BAD_ARG if neither b nor c is 0 to 11";
        for (int c : NO_BLOCKS) {
            refused("takeOver(" + c + ", " + c + ")", x -> x.takeOver(c, c));
            refused("takeOver(12, " + c + ")", x -> x.takeOver(12, c));
        }
    }

    private static void takeOverFromItself() {
        sentence = "8: BAD_ARG if they are the same";
        for (int block = 0; block < BLOCKS; block++) {
            int b = block;
            refused("takeOver(" + b + ", " + b + ")", x -> x.takeOver(b, b));
        }
    }

    private static void liveInOfNoBlock() {
        sentence = "9: BAD_ARG if b is not 0 to 11";
        for (int b : NO_BLOCKS) {
            refused("liveIn(" + b + ")", x -> x.liveIn(b));
        }
    }

    private static void liveOutOfNoBlock() {
        sentence = "10: BAD_ARG if b is not 0 to 11";
        for (int b : NO_BLOCKS) {
            refused("liveOut(" + b + ")", x -> x.liveOut(b));
        }
    }

    private static void liveBlocksOfNoVariable() {
        sentence = "11: BAD_ARG if v is not 0 to 19";
        for (int v : NO_VARIABLES) {
            refused("liveBlocks(" + v + ")", x -> x.liveBlocks(v));
        }
    }

    private static void reachingOfNoBlock() {
        sentence = "14: BAD_ARG if b is not 0 to 11";
        for (int b : NO_BLOCKS) {
            for (int v : EDGE_VARIABLES) {
                refused("reaching(" + b + ", " + v + ")", x -> x.reaching(b, v));
            }
        }
    }

    private static void reachingOfNoVariable() {
        sentence = "14: BAD_ARG if v is not 0 to 19";
        for (int v : NO_VARIABLES) {
            for (int b : EDGE_BLOCKS) {
                refused("reaching(" + b + ", " + v + ")", x -> x.reaching(b, v));
            }
            refused("reaching(12, " + v + ")", x -> x.reaching(12, v));
        }
    }

    // No state change is promised for a question.

    private static void questionsChangeNothing() {
        sentence = "3, 9 to 15: questions change nothing";
        for (State state : STATES) {
            for (int n = 0; n < BLOCKS; n++) {
                int b = n;
                unchanged(state, "hasArc(" + b + ", 11)", x -> x.hasArc(b, 11) ? 1 : 0);
                unchanged(state, "liveIn(" + b + ")", x -> x.liveIn(b));
                unchanged(state, "liveOut(" + b + ")", x -> x.liveOut(b));
                unchanged(state, "reaching(" + b + ", 19)", x -> x.reaching(b, 19));
            }
            for (int n = 0; n < VARIABLES; n++) {
                int v = n;
                unchanged(state, "liveBlocks(" + v + ")", x -> x.liveBlocks(v));
                unchanged(state, "reaching(0, " + v + ")", x -> x.reaching(0, v));
            }
            unchanged(state, "idleSets()", x -> x.idleSets());
            unchanged(state, "pressure()", x -> x.pressure());
            unchanged(state, "crowded()", x -> x.crowded());
        }
    }

    public static void main(String[] args) {
        theObjectsHoldWhatTheyShould();
        arcFromNoBlock();
        arcToNoBlock();
        arcBetweenNoBlocks();
        hasArcOfNoBlocks();
        useInNoBlock();
        useOfNoVariable();
        setInNoBlock();
        setOfNoVariable();
        blockOfNoBlock();
        blockWithNoUses();
        blockWithNoSets();
        blockWithNeitherSet();
        cutOffOfNoBlock();
        takeOverByNoBlock();
        takeOverFromNoBlock();
        takeOverBetweenNoBlocks();
        takeOverFromItself();
        liveInOfNoBlock();
        liveOutOfNoBlock();
        liveBlocksOfNoVariable();
        reachingOfNoBlock();
        reachingOfNoVariable();
        questionsChangeNothing();
        System.out.println(wrong == 0 ? "nothing is changed that should stay" : wrong + " calls are not as due");
        if (wrong != 0) {
            System.exit(1);
        }
    }
}
