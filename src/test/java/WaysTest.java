/**
 * Every program of three blocks and one variable, against the document's terms taken word for word:
 * each list of blocks up to a length is looked at for being a way that makes the variable live or reach.
 */
public final class WaysTest {
    /** Both ends of the range and one between, not in order of size. */
    private static final int[] BLOCK = {5, 11, 0};
    private static final int VARIABLE = 19;
    private static final int SET_OF_VARIABLE = 1 << VARIABLE;
    /** A way round all three blocks has four; one more, so that ways that go round more than once are seen too. */
    private static final int LONGEST = 5;

    private final boolean[][] arcs = new boolean[3][3];
    private final boolean[] uses = new boolean[3];
    private final boolean[] sets = new boolean[3];
    private final boolean[] liveAtBegin = new boolean[3];
    private final boolean[][] reachesFrom = new boolean[3][3];
    private final IncrLiveness x = new IncrLiveness();

    private static int wrong = 0;

    /** The bits of the number tell the arcs, the uses and the sets. */
    private WaysTest(int program) {
        int bits = program;
        for (int a = 0; a < 3; a++) {
            uses[a] = (bits & 1) == 1;
            sets[a] = (bits & 2) == 2;
            bits >>= 2;
            for (int b = 0; b < 3; b++) {
                arcs[a][b] = (bits & 1) == 1;
                bits >>= 1;
            }
        }
    }

    /** All is put in first, so that what the program does not have has come and gone. */
    private void build() {
        for (int a = 0; a < 3; a++) {
            x.use(BLOCK[a], VARIABLE, 1);
            for (int b = 0; b < 3; b++) {
                x.arc(BLOCK[a], BLOCK[b], 1);
            }
        }
        for (int a = 0; a < 3; a++) {
            x.block(BLOCK[a], uses[a] ? SET_OF_VARIABLE : 0, sets[a] ? SET_OF_VARIABLE : 0);
            for (int b = 0; b < 3; b++) {
                x.arc(BLOCK[a], BLOCK[b], arcs[a][b] ? 1 : 0);
            }
        }
    }

    /** Looks at every list of blocks up to the longest length. */
    private void lookAtLists() {
        int lists = 1;
        for (int length = 1; length <= LONGEST; length++) {
            lists *= 3;
            for (int number = 0; number < lists; number++) {
                lookAt(listOf(number, length));
            }
        }
    }

    private static int[] listOf(int number, int length) {
        int[] list = new int[length];
        int rest = number;
        for (int i = 0; i < length; i++) {
            list[i] = rest % 3;
            rest /= 3;
        }
        return list;
    }

    private void lookAt(int[] list) {
        if (!isWay(list)) {
            return;
        }
        int first = list[0];
        int last = list[list.length - 1];
        if (uses[last] && noneSets(list, 0, list.length - 1)) {
            liveAtBegin[first] = true;
        }
        if (list.length >= 2 && sets[first] && noneSets(list, 1, list.length - 1)) {
            reachesFrom[last][first] = true;
        }
    }

    private boolean isWay(int[] list) {
        for (int i = 0; i + 1 < list.length; i++) {
            if (!arcs[list[i]][list[i + 1]]) {
                return false;
            }
        }
        return true;
    }

    private boolean noneSets(int[] list, int from, int before) {
        for (int i = from; i < before; i++) {
            if (sets[list[i]]) {
                return false;
            }
        }
        return true;
    }

    private boolean liveAtEnd(int b) {
        boolean live = false;
        for (int to = 0; to < 3; to++) {
            live |= arcs[b][to] && liveAtBegin[to];
        }
        return live;
    }

    private static int setOf(boolean[] members) {
        int set = 0;
        for (int i = 0; i < 3; i++) {
            set += members[i] ? 1 << BLOCK[i] : 0;
        }
        return set;
    }

    private void due(String call, int got, int want) {
        if (got != want && wrong++ < 20) {
            System.out.println(told() + ": " + call + " answered " + got + ", due is " + want);
        }
    }

    private String told() {
        StringBuilder told = new StringBuilder();
        for (int a = 0; a < 3; a++) {
            told.append("block ").append(BLOCK[a]).append(uses[a] ? " uses" : "").append(sets[a] ? " sets" : "");
            for (int b = 0; b < 3; b++) {
                told.append(arcs[a][b] ? " to " + BLOCK[b] : "");
            }
            told.append(a < 2 ? "; " : "");
        }
        return told.toString();
    }

    private void ask() {
        int idle = 0;
        for (int b = 0; b < 3; b++) {
            due("liveIn(" + BLOCK[b] + ")", x.liveIn(BLOCK[b]), liveAtBegin[b] ? SET_OF_VARIABLE : 0);
            due("liveOut(" + BLOCK[b] + ")", x.liveOut(BLOCK[b]), liveAtEnd(b) ? SET_OF_VARIABLE : 0);
            due("reaching(" + BLOCK[b] + ", 19)", x.reaching(BLOCK[b], VARIABLE), setOf(reachesFrom[b]));
            idle += sets[b] && !liveAtEnd(b) ? 1 : 0;
        }
        due("liveBlocks(19)", x.liveBlocks(VARIABLE), setOf(liveAtBegin));
        due("idleSets()", x.idleSets(), idle);
        due("pressure()", x.pressure(), setOf(liveAtBegin) != 0 ? 1 : 0);
        due("crowded()", x.crowded(), 0);
    }

    public static void main(String[] args) {
        for (int program = 0; program < 1 << 15; program++) {
            WaysTest test = new WaysTest(program);
            test.build();
            test.lookAtLists();
            test.ask();
        }
        System.out.println(wrong == 0 ? "all answers are as the ways tell" : wrong + " answers are not as the ways tell");
        if (wrong != 0) {
            System.exit(1);
        }
    }
}
