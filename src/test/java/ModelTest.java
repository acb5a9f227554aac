import java.util.ArrayDeque;

/** Long runs of calls, each answer against a model that searches ways as the document's terms tell them. */
public final class ModelTest {
    private static final int BLOCKS = 12;
    private static final int VARIABLES = 20;
    private static final int BAD = -1;
    private static final int CALLS = 512;

    private final boolean[][] arcs = new boolean[BLOCKS][BLOCKS];
    private final boolean[][] uses = new boolean[BLOCKS][VARIABLES];
    private final boolean[][] sets = new boolean[BLOCKS][VARIABLES];
    private final IncrLiveness x = new IncrLiveness();
    private final int run;
    private int calls = 0;
    private long state;

    private static int wrong = 0;

    private ModelTest(int run) {
        this.run = run;
        this.state = 0x9E3779B97F4A7C15L * (run + 1);
    }

    /** A fixed sequence for each run, so that every failure comes again. */
    private int pick(int below) {
        state = state * 6364136223846793005L + 1442695040888963407L;
        return (int) ((state >>> 33) % below);
    }

    private void due(String call, int got, int want) {
        calls++;
        if (got != want && wrong++ < 20) {
            System.out.println("run " + run + ", call " + calls + ": " + call + " answered " + got + ", due is " + want);
        }
    }

    private static boolean isBlock(int b) {
        return 0 <= b && b <= 11;
    }

    private static boolean isVariable(int v) {
        return 0 <= v && v <= 19;
    }

    private static boolean isSet(int s) {
        return 0 <= s && s <= 1048575;
    }

    // The model's answers.

    private boolean live(int b, int v) {
        boolean[] seen = new boolean[BLOCKS];
        ArrayDeque<Integer> open = new ArrayDeque<>();
        open.add(b);
        while (!open.isEmpty()) {
            int at = open.remove();
            if (seen[at]) {
                continue;
            }
            seen[at] = true;
            if (uses[at][v]) {
                return true;
            }
            if (!sets[at][v]) {
                follow(at, open);
            }
        }
        return false;
    }

    private void follow(int at, ArrayDeque<Integer> open) {
        for (int to = 0; to < BLOCKS; to++) {
            if (arcs[at][to]) {
                open.add(to);
            }
        }
    }

    private boolean liveAtEnd(int b, int v) {
        for (int to = 0; to < BLOCKS; to++) {
            if (arcs[b][to] && live(to, v)) {
                return true;
            }
        }
        return false;
    }

    private boolean reaches(int a, int b, int v) {
        boolean[] seen = new boolean[BLOCKS];
        ArrayDeque<Integer> open = new ArrayDeque<>();
        if (sets[a][v]) {
            follow(a, open);
        }
        while (!open.isEmpty()) {
            int at = open.remove();
            if (seen[at]) {
                continue;
            }
            seen[at] = true;
            if (!sets[at][v]) {
                follow(at, open);
            }
        }
        return seen[b];
    }

    private int liveInDue(int b) {
        int s = 0;
        for (int v = 0; v < VARIABLES; v++) {
            s += live(b, v) ? 1 << v : 0;
        }
        return s;
    }

    private int liveOutDue(int b) {
        int s = 0;
        for (int v = 0; v < VARIABLES; v++) {
            s += liveAtEnd(b, v) ? 1 << v : 0;
        }
        return s;
    }

    private int liveBlocksDue(int v) {
        int s = 0;
        for (int b = 0; b < BLOCKS; b++) {
            s += live(b, v) ? 1 << b : 0;
        }
        return s;
    }

    private int reachingDue(int b, int v) {
        int s = 0;
        for (int a = 0; a < BLOCKS; a++) {
            s += reaches(a, b, v) ? 1 << a : 0;
        }
        return s;
    }

    private int idleSetsDue() {
        int n = 0;
        for (int b = 0; b < BLOCKS; b++) {
            for (int v = 0; v < VARIABLES; v++) {
                n += sets[b][v] && !liveAtEnd(b, v) ? 1 : 0;
            }
        }
        return n;
    }

    private int pressureDue() {
        int most = 0;
        for (int b = 0; b < BLOCKS; b++) {
            most = Math.max(most, Integer.bitCount(liveInDue(b)));
        }
        return most;
    }

    private int crowdedDue() {
        int n = 0;
        for (int v = 0; v < VARIABLES; v++) {
            for (int w = 0; w < v; w++) {
                n += (liveBlocksDue(v) & liveBlocksDue(w)) != 0 ? 1 : 0;
            }
        }
        return n;
    }

    // One call each, on the object and on the model.

    private void arc(int a, int b, int on) {
        int want = BAD;
        if (isBlock(a) && isBlock(b)) {
            want = arcs[a][b] ? 1 : 0;
            arcs[a][b] = on != 0;
        }
        due("arc(" + a + ", " + b + ", " + on + ")", x.arc(a, b, on), want);
    }

    private void use(int b, int v, int on) {
        int want = BAD;
        if (isBlock(b) && isVariable(v)) {
            want = uses[b][v] ? 1 : 0;
            uses[b][v] = on != 0;
        }
        due("use(" + b + ", " + v + ", " + on + ")", x.use(b, v, on), want);
    }

    private void set(int b, int v, int on) {
        int want = BAD;
        if (isBlock(b) && isVariable(v)) {
            want = sets[b][v] ? 1 : 0;
            sets[b][v] = on != 0;
        }
        due("set(" + b + ", " + v + ", " + on + ")", x.set(b, v, on), want);
    }

    private void block(int b, int used, int set) {
        int want = BAD;
        if (isBlock(b) && isSet(used) && isSet(set)) {
            want = 0;
            for (int v = 0; v < VARIABLES; v++) {
                uses[b][v] = (used >> v & 1) == 1;
                sets[b][v] = (set >> v & 1) == 1;
            }
        }
        due("block(" + b + ", " + used + ", " + set + ")", x.block(b, used, set), want);
    }

    private void cutOff(int b) {
        int want = isBlock(b) ? 0 : BAD;
        for (int a = 0; a < BLOCKS; a++) {
            for (int c = 0; c < BLOCKS; c++) {
                if (arcs[a][c] && (a == b || c == b)) {
                    arcs[a][c] = false;
                    want++;
                }
            }
        }
        due("cutOff(" + b + ")", x.cutOff(b), want);
    }

    private void takeOver(int b, int c) {
        int want = BAD;
        if (isBlock(b) && isBlock(c) && b != c) {
            want = 0;
            for (int to = 0; to < BLOCKS; to++) {
                want += arcs[c][to] && !arcs[b][to] ? 1 : 0;
                arcs[b][to] |= arcs[c][to];
                arcs[c][to] = false;
            }
        }
        due("takeOver(" + b + ", " + c + ")", x.takeOver(b, c), want);
    }

    private void hasArc(int a, int b) {
        boolean want = isBlock(a) && isBlock(b) && arcs[a][b];
        due("hasArc(" + a + ", " + b + ")", x.hasArc(a, b) ? 1 : 0, want ? 1 : 0);
    }

    private void liveIn(int b) {
        due("liveIn(" + b + ")", x.liveIn(b), isBlock(b) ? liveInDue(b) : BAD);
    }

    private void liveOut(int b) {
        due("liveOut(" + b + ")", x.liveOut(b), isBlock(b) ? liveOutDue(b) : BAD);
    }

    private void liveBlocks(int v) {
        due("liveBlocks(" + v + ")", x.liveBlocks(v), isVariable(v) ? liveBlocksDue(v) : BAD);
    }

    private void reaching(int b, int v) {
        due("reaching(" + b + ", " + v + ")", x.reaching(b, v), isBlock(b) && isVariable(v) ? reachingDue(b, v) : BAD);
    }

    private void counts() {
        due("idleSets()", x.idleSets(), idleSetsDue());
        due("pressure()", x.pressure(), pressureDue());
        due("crowded()", x.crowded(), crowdedDue());
    }

    // Runs.

    private int anyNumber() {
        int[] odd = {-1, 12, 20, 31, 32, 1048576, Integer.MIN_VALUE, Integer.MAX_VALUE};
        return odd[pick(odd.length)];
    }

    private int anyBlock() {
        return pick(40) == 0 ? anyNumber() : pick(BLOCKS);
    }

    /** Few variables in most runs, so that uses and sets of one variable meet. */
    private int anyVariable() {
        if (pick(40) == 0) {
            return anyNumber();
        }
        return run % 3 == 0 ? pick(VARIABLES) : 17 + pick(3);
    }

    private int anySet() {
        if (pick(40) == 0) {
            return anyNumber();
        }
        return pick(1048576) & pick(1048576) & pick(1048576);
    }

    /** More off than on in some runs, so that there are few arcs and long ways. */
    private int anyOn() {
        int on = pick(2 + run % 4) == 0 ? 1 + pick(3) : 0;
        return pick(5) == 0 ? -on : on;
    }

    private void change() {
        int kind = pick(20);
        if (kind < 7) {
            arc(anyBlock(), anyBlock(), anyOn());
        } else if (kind < 11) {
            use(anyBlock(), anyVariable(), anyOn());
        } else if (kind < 15) {
            set(anyBlock(), anyVariable(), anyOn());
        } else if (kind < 18) {
            block(anyBlock(), anySet(), anySet());
        } else if (kind < 19) {
            cutOff(anyBlock());
        } else {
            takeOver(anyBlock(), anyBlock());
        }
    }

    private void ask() {
        switch (pick(6)) {
            case 0 -> hasArc(anyBlock(), anyBlock());
            case 1 -> liveIn(anyBlock());
            case 2 -> liveOut(anyBlock());
            case 3 -> liveBlocks(anyVariable());
            case 4 -> reaching(anyBlock(), anyVariable());
            default -> counts();
        }
    }

    /** A circle through all blocks in some order: the longest ways there are. */
    private void layCircle() {
        int[] order = new int[BLOCKS];
        for (int i = 0; i < BLOCKS; i++) {
            int j = pick(i + 1);
            order[i] = order[j];
            order[j] = i;
        }
        for (int i = 0; i < BLOCKS; i++) {
            arc(order[i], order[(i + 1) % BLOCKS], 1);
        }
    }

    private void askAll() {
        for (int b = 0; b < BLOCKS; b++) {
            for (int c = 0; c < BLOCKS; c++) {
                hasArc(b, c);
            }
            liveIn(b);
            liveOut(b);
            for (int v = 0; v < VARIABLES; v++) {
                reaching(b, v);
            }
        }
        for (int v = 0; v < VARIABLES; v++) {
            liveBlocks(v);
        }
        counts();
    }

    /** Changes and questions mixed, up to the last call that an object is good for. */
    private void mixedRun() {
        if (run % 2 == 0) {
            layCircle();
        }
        // A question can be three calls, and three more come last: what call 513 answers is free.
        while (calls <= CALLS - 6) {
            if (pick(2) == 0) {
                change();
            } else {
                ask();
            }
        }
        counts();
    }

    /** Some changes, then every question that there is. */
    private void askedAllRun() {
        if (run % 2 == 0) {
            layCircle();
        }
        int changes = pick(60);
        for (int i = 0; i < changes; i++) {
            change();
        }
        askAll();
    }

    public static void main(String[] args) {
        for (int run = 0; run < 400; run++) {
            new ModelTest(run).mixedRun();
            new ModelTest(run + 1000).askedAllRun();
        }
        System.out.println(wrong == 0 ? "all answers are as the model's" : wrong + " answers are not as the model's");
        if (wrong != 0) {
            System.exit(1);
        }
    }
}
