/** Which variables are live where in a program of blocks and arcs; ../shared/DOC.md has the promises. */
public final class IncrLiveness {
    public static final int BAD_ARG = -1;

    private static final int BLOCKS = 12;
    private static final int VARIABLES = 20;
    private static final int ALL_VARIABLES = 1048575;

    /** For each block, the set of the blocks to which it has an arc. */
    private final int[] arcsFrom = new int[BLOCKS];
    private final int[] usedIn = new int[BLOCKS];
    private final int[] setIn = new int[BLOCKS];
    /** For each block, the variables live at its begin; follows from the three arrays above. */
    private final int[] liveAtBegin = new int[BLOCKS];

    public IncrLiveness() {
    }

    public int arc(int a, int b, int on) {
        if (!isBlock(a) || !isBlock(b)) {
            return BAD_ARG;
        }
        int before = switchMember(arcsFrom, a, b, on);
        refreshLive();
        return before;
    }

    public boolean hasArc(int a, int b) {
        return isBlock(a) && isBlock(b) && contains(arcsFrom[a], b);
    }

    public int use(int b, int v, int on) {
        if (!isBlock(b) || !isVariable(v)) {
            return BAD_ARG;
        }
        int before = switchMember(usedIn, b, v, on);
        refreshLive();
        return before;
    }

    public int set(int b, int v, int on) {
        if (!isBlock(b) || !isVariable(v)) {
            return BAD_ARG;
        }
        int before = switchMember(setIn, b, v, on);
        refreshLive();
        return before;
    }

    public int block(int b, int uses, int sets) {
        if (!isBlock(b) || !isVariableSet(uses) || !isVariableSet(sets)) {
            return BAD_ARG;
        }
        usedIn[b] = uses;
        setIn[b] = sets;
        refreshLive();
        return 0;
    }

    public int cutOff(int b) {
        if (!isBlock(b)) {
            return BAD_ARG;
        }
        // The block's own arcs go first, so that an arc to itself is counted once.
        int gone = size(arcsFrom[b]);
        arcsFrom[b] = 0;
        for (int a = 0; a < BLOCKS; a++) {
            gone += switchMember(arcsFrom, a, b, 0);
        }
        refreshLive();
        return gone;
    }

    public int takeOver(int b, int c) {
        if (!isBlock(b) || !isBlock(c) || b == c) {
            return BAD_ARG;
        }
        int gained = size(arcsFrom[c] & ~arcsFrom[b]);
        arcsFrom[b] |= arcsFrom[c];
        arcsFrom[c] = 0;
        refreshLive();
        return gained;
    }

    public int liveIn(int b) {
        return isBlock(b) ? liveAtBegin[b] : BAD_ARG;
    }

    public int liveOut(int b) {
        return isBlock(b) ? liveAtEnd(b) : BAD_ARG;
    }

    public int liveBlocks(int v) {
        return isVariable(v) ? blocksWith(liveAtBegin, v) : BAD_ARG;
    }

    public int idleSets() {
        int idle = 0;
        for (int b = 0; b < BLOCKS; b++) {
            int needed = liveAtEnd(b);
            idle += size(setIn[b] & ~needed);
        }
        return idle;
    }

    public int pressure() {
        int greatest = 0;
        for (int b = 0; b < BLOCKS; b++) {
            int live = size(liveAtBegin[b]);
            if (live > greatest) {
                greatest = live;
            }
        }
        return greatest;
    }

    public int reaching(int b, int v) {
        if (!isBlock(b) || !isVariable(v)) {
            return BAD_ARG;
        }
        int setters = blocksWith(setIn, v);
        return setters & blocksBefore(b, setters);
    }

    public int crowded() {
        int pairs = 0;
        for (int v = 0; v < VARIABLES; v++) {
            int liveWithV = 0;
            for (int b = 0; b < BLOCKS; b++) {
                if (contains(liveAtBegin[b], v)) {
                    liveWithV |= liveAtBegin[b];
                }
            }
            // Only partners above v are counted, so that each pair counts once.
            pairs += size(liveWithV >> (v + 1));
        }
        return pairs;
    }

    private static boolean isBlock(int b) {
        return b >= 0 && b < BLOCKS;
    }

    private static boolean isVariable(int v) {
        return v >= 0 && v < VARIABLES;
    }

    private static boolean isVariableSet(int s) {
        return s >= 0 && s <= ALL_VARIABLES;
    }

    private static boolean contains(int s, int member) {
        return ((s >> member) & 1) != 0;
    }

    private static int size(int s) {
        int count = 0;
        // No set has members above the greatest variable: blocks are fewer than variables.
        for (int i = 0; i < VARIABLES; i++) {
            count += (s >> i) & 1;
        }
        return count;
    }

    /** Answers 1 if the member was in the block's set before, else 0. */
    private static int switchMember(int[] setOf, int block, int member, int on) {
        int before = (setOf[block] >> member) & 1;
        if (on != 0) {
            setOf[block] |= 1 << member;
        } else {
            setOf[block] &= ~(1 << member);
        }
        return before;
    }

    private static int blocksWith(int[] variablesOf, int v) {
        int blocks = 0;
        for (int b = 0; b < BLOCKS; b++) {
            if (contains(variablesOf[b], v)) {
                blocks |= 1 << b;
            }
        }
        return blocks;
    }

    private int liveAtEnd(int b) {
        int live = 0;
        for (int to = 0; to < BLOCKS; to++) {
            if (contains(arcsFrom[b], to)) {
                live |= liveAtBegin[to];
            }
        }
        return live;
    }

    /**
     * Starts from nothing each time: blocks in a circle would otherwise go on keeping
     * a variable live for one another after its last use is gone.
     */
    private void refreshLive() {
        for (int b = 0; b < BLOCKS; b++) {
            liveAtBegin[b] = 0;
        }
        // After n passes all ways of up to n blocks are seen; no shortest way has more than BLOCKS.
        for (int pass = 0; pass < BLOCKS; pass++) {
            for (int b = 0; b < BLOCKS; b++) {
                int needed = liveAtEnd(b);
                liveAtBegin[b] = usedIn[b] | (needed & ~setIn[b]);
            }
        }
    }

    /** The blocks with a way of two or more blocks to block b that has no stopper strictly inside. */
    private int blocksBefore(int b, int stoppers) {
        int before = 0;
        int open = 1 << b;
        // After n passes all ways of up to n arcs are seen; no shortest one, even round a circle, has more than BLOCKS.
        for (int pass = 0; pass < BLOCKS; pass++) {
            for (int a = 0; a < BLOCKS; a++) {
                if ((arcsFrom[a] & open) != 0) {
                    before |= 1 << a;
                }
            }
            open |= before & ~stoppers;
        }
        return before;
    }
}
