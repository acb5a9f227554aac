/** Each promise of the document by itself: ordinary inputs, edges and wrong inputs. */
public final class PromiseTest {
    private static final int BAD = -1;
    private static final int ALL_VARIABLES = 1048575;
    private static final int ALL_BLOCKS = 4095;
    private static final int[] NO_BLOCKS = {-1, 12, 13, 31, 32, 33, 64, Integer.MIN_VALUE, Integer.MAX_VALUE};
    private static final int[] NO_VARIABLES = {-1, 20, 21, 31, 32, 33, 64, Integer.MIN_VALUE, Integer.MAX_VALUE};
    private static final int[] NO_SETS = {-1, 1048576, 1048577, Integer.MIN_VALUE, Integer.MAX_VALUE};
    private static int wrong = 0;

    private static void due(String call, int got, int want) {
        if (got != want) {
            wrong++;
            System.out.println(call + " answered " + got + ", due is " + want);
        }
    }

    private static void due(String call, boolean got, boolean want) {
        due(call, got ? 1 : 0, want ? 1 : 0);
    }

    /** The arcs 0 to 1, 1 to 2 and so on up to the given block. */
    private static IncrLiveness chain(int last) {
        IncrLiveness x = new IncrLiveness();
        for (int b = 0; b < last; b++) {
            x.arc(b, b + 1, 1);
        }
        return x;
    }

    private static void promise1NewObject() {
        IncrLiveness x = new IncrLiveness();
        for (int a = 0; a < 12; a++) {
            for (int b = 0; b < 12; b++) {
                due("1: hasArc(" + a + ", " + b + ")", x.hasArc(a, b), false);
            }
            due("1: liveIn(" + a + ")", x.liveIn(a), 0);
            due("1: liveOut(" + a + ")", x.liveOut(a), 0);
            due("1: cutOff(" + a + ")", x.cutOff(a), 0);
        }
        for (int v = 0; v < 20; v++) {
            due("1: liveBlocks(" + v + ")", x.liveBlocks(v), 0);
            due("1: reaching(0, " + v + ")", x.reaching(0, v), 0);
        }
        due("1: idleSets()", x.idleSets(), 0);
        due("1: pressure()", x.pressure(), 0);
        due("1: crowded()", x.crowded(), 0);
        for (int b = 0; b < 12; b += 11) {
            for (int v = 0; v < 20; v++) {
                due("1: use(" + b + ", " + v + ", 0)", x.use(b, v, 0), 0);
                due("1: set(" + b + ", " + v + ", 0)", x.set(b, v, 0), 0);
            }
        }
        IncrLiveness y = new IncrLiveness();
        y.arc(0, 0, 1);
        y.use(0, 0, 1);
        due("1: objects are apart, hasArc(0, 0)", x.hasArc(0, 0), false);
        due("1: objects are apart, liveIn(0)", x.liveIn(0), 0);
    }

    private static void promise2Arc() {
        IncrLiveness x = new IncrLiveness();
        due("2: put", x.arc(3, 7, 1), 0);
        due("2: only one way", x.hasArc(7, 3), false);
        due("2: put again", x.arc(3, 7, 1), 1);
        due("2: there", x.hasArc(3, 7), true);
        due("2: take", x.arc(3, 7, 0), 1);
        due("2: gone", x.hasArc(3, 7), false);
        due("2: take again", x.arc(3, 7, 0), 0);
        due("2: on -1", x.arc(11, 11, -1), 0);
        due("2: on -1 puts", x.hasArc(11, 11), true);
        due("2: on 2", x.arc(0, 11, 2), 0);
        due("2: on 2 puts", x.hasArc(0, 11), true);
        due("2: on least number", x.arc(11, 0, Integer.MIN_VALUE), 0);
        due("2: on least number puts", x.hasArc(11, 0), true);
        due("2: arc to itself is taken", x.arc(11, 11, 0), 1);
        due("2: others stay", x.hasArc(11, 0), true);
        IncrLiveness y = new IncrLiveness();
        for (int bad : NO_BLOCKS) {
            for (int on = 0; on < 2; on++) {
                due("2: arc(" + bad + ", 0, " + on + ")", y.arc(bad, 0, on), BAD);
                due("2: arc(0, " + bad + ", " + on + ")", y.arc(0, bad, on), BAD);
                due("2: arc(" + bad + ", " + bad + ", " + on + ")", y.arc(bad, bad, on), BAD);
            }
        }
        for (int b = 0; b < 12; b++) {
            due("2: nothing changed by wrong blocks, cutOff(" + b + ")", y.cutOff(b), 0);
        }
    }

    private static void promise3HasArc() {
        IncrLiveness x = new IncrLiveness();
        for (int b = 0; b < 12; b++) {
            x.arc(0, b, 1);
            x.arc(b, 11, 1);
        }
        for (int a = 0; a < 12; a++) {
            for (int b = 0; b < 12; b++) {
                due("3: hasArc(" + a + ", " + b + ")", x.hasArc(a, b), a == 0 || b == 11);
            }
        }
        for (int bad : NO_BLOCKS) {
            due("3: hasArc(" + bad + ", 11)", x.hasArc(bad, 11), false);
            due("3: hasArc(0, " + bad + ")", x.hasArc(0, bad), false);
            due("3: hasArc(" + bad + ", " + bad + ")", x.hasArc(bad, bad), false);
        }
    }

    private static void promise4Use() {
        IncrLiveness x = new IncrLiveness();
        due("4: on", x.use(2, 5, 1), 0);
        due("4: on again", x.use(2, 5, 7), 1);
        due("4: live", x.liveIn(2), 32);
        due("4: sets nothing", x.idleSets(), 0);
        due("4: off", x.use(2, 5, 0), 1);
        due("4: no longer live", x.liveIn(2), 0);
        due("4: off again", x.use(2, 5, 0), 0);
        due("4: on -1", x.use(11, 19, -1), 0);
        due("4: on least number", x.use(0, 0, Integer.MIN_VALUE), 0);
        due("4: edge 11, 19", x.liveIn(11), 1 << 19);
        due("4: edge 0, 0", x.liveIn(0), 1);
        for (int bad : NO_BLOCKS) {
            due("4: use(" + bad + ", 0, 1)", x.use(bad, 0, 1), BAD);
            due("4: use(" + bad + ", 0, 0)", x.use(bad, 0, 0), BAD);
        }
        for (int bad : NO_VARIABLES) {
            due("4: use(0, " + bad + ", 1)", x.use(0, bad, 1), BAD);
            due("4: use(0, " + bad + ", 0)", x.use(0, bad, 0), BAD);
        }
        for (int b = 0; b < 12; b++) {
            due("4: nothing changed, liveIn(" + b + ")", x.liveIn(b), b == 0 ? 1 : b == 11 ? 1 << 19 : 0);
        }
    }

    private static void promise5Set() {
        IncrLiveness x = new IncrLiveness();
        due("5: on", x.set(2, 5, 1), 0);
        due("5: on again", x.set(2, 5, 7), 1);
        due("5: sets", x.idleSets(), 1);
        due("5: uses nothing", x.use(2, 5, 0), 0);
        due("5: off", x.set(2, 5, 0), 1);
        due("5: sets no longer", x.idleSets(), 0);
        due("5: off again", x.set(2, 5, 0), 0);
        due("5: on -1", x.set(11, 19, -1), 0);
        due("5: on least number", x.set(0, 0, Integer.MIN_VALUE), 0);
        due("5: both edges set", x.idleSets(), 2);
        for (int bad : NO_BLOCKS) {
            due("5: set(" + bad + ", 0, 1)", x.set(bad, 0, 1), BAD);
            due("5: set(" + bad + ", 0, 0)", x.set(bad, 0, 0), BAD);
        }
        for (int bad : NO_VARIABLES) {
            due("5: set(0, " + bad + ", 1)", x.set(0, bad, 1), BAD);
            due("5: set(0, " + bad + ", 0)", x.set(0, bad, 0), BAD);
        }
        due("5: nothing changed", x.idleSets(), 2);
        due("5: 0 still sets 0", x.set(0, 0, 0), 1);
        due("5: 11 still sets 19", x.set(11, 19, 0), 1);
    }

    private static void promise6Block() {
        IncrLiveness x = new IncrLiveness();
        x.use(4, 0, 1);
        x.set(4, 1, 1);
        due("6: ordinary", x.block(4, 12, 24), 0);
        for (int v = 0; v < 20; v++) {
            due("6: uses " + v, x.use(4, v, 1), (12 >> v) & 1);
            due("6: sets " + v, x.set(4, v, 1), (24 >> v) & 1);
        }
        due("6: other blocks stay", x.liveIn(3), 0);
        due("6: none", x.block(4, 0, 0), 0);
        due("6: none used", x.liveIn(4), 0);
        due("6: none set", x.idleSets(), 0);
        due("6: all", x.block(11, ALL_VARIABLES, ALL_VARIABLES), 0);
        due("6: all used", x.liveIn(11), ALL_VARIABLES);
        due("6: all set", x.idleSets(), 20);
        for (int bad : NO_BLOCKS) {
            due("6: block(" + bad + ", 1, 2)", x.block(bad, 1, 2), BAD);
        }
        for (int bad : NO_SETS) {
            due("6: block(11, " + bad + ", 0)", x.block(11, bad, 0), BAD);
            due("6: block(11, 0, " + bad + ")", x.block(11, 0, bad), BAD);
            due("6: block(0, " + bad + ", 1)", x.block(0, bad, 1), BAD);
            due("6: block(0, 1, " + bad + ")", x.block(0, 1, bad), BAD);
        }
        due("6: still all used", x.liveIn(11), ALL_VARIABLES);
        due("6: still all set", x.idleSets(), 20);
        due("6: still pressure 20 in 11 alone", x.liveBlocks(0), 1 << 11);
    }

    private static void promise7CutOff() {
        IncrLiveness x = chain(11);
        x.arc(5, 5, 1);
        x.arc(5, 0, 1);
        x.arc(11, 5, 1);
        x.use(5, 2, 1);
        due("7: arc to itself counts once", x.cutOff(5), 5);
        due("7: none left", x.cutOff(5), 0);
        for (int a = 0; a < 12; a++) {
            for (int b = 0; b < 12; b++) {
                due("7: hasArc(" + a + ", " + b + ")", x.hasArc(a, b), b == a + 1 && a != 5 && b != 5);
            }
        }
        due("7: uses stay, others know no more", x.liveBlocks(2), 32);
        x.arc(0, 0, 1);
        x.arc(0, 1, 0);
        due("7: itself alone", x.cutOff(0), 1);
        for (int bad : NO_BLOCKS) {
            due("7: cutOff(" + bad + ")", x.cutOff(bad), BAD);
        }
        due("7: nothing changed", x.hasArc(10, 11), true);
        IncrLiveness full = new IncrLiveness();
        for (int a = 0; a < 12; a++) {
            for (int b = 0; b < 12; b++) {
                full.arc(a, b, 1);
            }
        }
        for (int b = 0; b < 12; b++) {
            due("7: full, cutOff(" + b + ")", full.cutOff(b), 2 * (12 - b) - 1);
        }
    }

    private static void promise8TakeOver() {
        IncrLiveness x = new IncrLiveness();
        x.arc(1, 3, 1);
        x.arc(1, 4, 1);
        x.arc(2, 4, 1);
        x.arc(2, 5, 1);
        x.arc(2, 2, 1);
        x.arc(2, 1, 1);
        x.arc(6, 2, 1);
        x.use(5, 0, 1);
        x.block(2, 2, 4);
        due("8: new ones counted", x.takeOver(1, 2), 3);
        for (int a = 0; a < 12; a++) {
            for (int b = 0; b < 12; b++) {
                due("8: hasArc(" + a + ", " + b + ")", x.hasArc(a, b), a == 1 && b >= 1 && b <= 5 || a == 6 && b == 2);
            }
        }
        due("8: live follows", x.liveBlocks(0), 34);
        due("8: uses of c stay", x.liveIn(2), 2);
        due("8: sets of c stay", x.set(2, 2, 1), 1);
        due("8: nothing to take", x.takeOver(1, 2), 0);
        due("8: arcs of b stay", x.hasArc(1, 3), true);
        due("8: to the edge", x.takeOver(11, 1), 5);
        due("8: from the edge", x.takeOver(0, 11), 5);
        x.arc(7, 3, 1);
        due("8: none new", x.takeOver(0, 7), 0);
        due("8: taken all the same", x.hasArc(7, 3), false);
        for (int bad : NO_BLOCKS) {
            due("8: takeOver(" + bad + ", 0)", x.takeOver(bad, 0), BAD);
            due("8: takeOver(0, " + bad + ")", x.takeOver(0, bad), BAD);
            due("8: takeOver(" + bad + ", " + bad + ")", x.takeOver(bad, bad), BAD);
        }
        for (int b = 0; b < 12; b++) {
            due("8: takeOver(" + b + ", " + b + ")", x.takeOver(b, b), BAD);
        }
        due("8: nothing changed", x.cutOff(0), 5);
    }

    private static void promise9LiveIn() {
        IncrLiveness x = chain(11);
        x.use(11, 19, 1);
        for (int b = 0; b < 12; b++) {
            due("9: longest way, liveIn(" + b + ")", x.liveIn(b), 1 << 19);
        }
        x.set(11, 19, 1);
        due("9: used before it is set", x.liveIn(0), 1 << 19);
        x.set(6, 19, 1);
        due("9: setter stops it", x.liveIn(6), 0);
        due("9: stopped before too", x.liveIn(0), 0);
        due("9: after the setter", x.liveIn(7), 1 << 19);
        x.use(6, 19, 1);
        due("9: setter that uses", x.liveIn(6), 1 << 19);
        IncrLiveness back = new IncrLiveness();
        for (int b = 11; b > 0; b--) {
            back.arc(b, b - 1, 1);
        }
        back.use(0, 7, 1);
        due("9: longest way downwards", back.liveIn(11), 128);
        back.arc(0, 11, 1);
        back.use(0, 7, 0);
        due("9: a circle keeps nothing live", back.liveIn(11), 0);
        back.use(5, 3, 1);
        due("9: round the circle", back.liveIn(4), 8);
        back.arc(8, 7, 0);
        due("9: circle broken", back.liveIn(4), 0);
        due("9: still before the use", back.liveIn(7), 8);
        for (int bad : NO_BLOCKS) {
            due("9: liveIn(" + bad + ")", back.liveIn(bad), BAD);
        }
    }

    private static void promise10LiveOut() {
        IncrLiveness x = new IncrLiveness();
        x.block(0, 1, 0);
        due("10: no arc", x.liveOut(0), 0);
        x.arc(0, 0, 1);
        due("10: arc to itself", x.liveOut(0), 1);
        x.arc(0, 1, 1);
        x.arc(0, 11, 1);
        x.block(1, 2, 0);
        x.block(11, 1 << 19, 0);
        due("10: all followers", x.liveOut(0), 1 | 2 | 1 << 19);
        x.block(0, 0, 2);
        due("10: own setting doesn't matter", x.liveOut(0), 2 | 1 << 19);
        due("10: but at the begin", x.liveIn(0), 1 << 19);
        due("10: last one", x.liveOut(11), 0);
        for (int bad : NO_BLOCKS) {
            due("10: liveOut(" + bad + ")", x.liveOut(bad), BAD);
        }
    }

    private static void promise11LiveBlocks() {
        IncrLiveness x = chain(11);
        x.use(11, 0, 1);
        x.use(11, 19, 1);
        x.set(10, 19, 1);
        due("11: all blocks", x.liveBlocks(0), ALL_BLOCKS);
        due("11: last block alone", x.liveBlocks(19), 1 << 11);
        due("11: none", x.liveBlocks(1), 0);
        x.arc(3, 4, 0);
        due("11: arc gone", x.liveBlocks(0), ALL_BLOCKS & ~15);
        for (int bad : NO_VARIABLES) {
            due("11: liveBlocks(" + bad + ")", x.liveBlocks(bad), BAD);
        }
    }

    private static void promise12IdleSets() {
        IncrLiveness x = new IncrLiveness();
        for (int b = 0; b < 12; b++) {
            x.block(b, 0, ALL_VARIABLES);
        }
        due("12: all idle", x.idleSets(), 240);
        x.arc(0, 11, 1);
        x.use(11, 19, 1);
        due("12: one needed", x.idleSets(), 239);
        x.use(0, 4, 1);
        due("12: own use comes first", x.idleSets(), 239);
        x.arc(0, 0, 1);
        due("12: own use after the arc to itself", x.idleSets(), 238);
        x.arc(3, 0, 1);
        due("12: only till the next setter", x.idleSets(), 237);
    }

    private static void promise13Pressure() {
        IncrLiveness x = new IncrLiveness();
        x.block(3, 7, 0);
        due("13: three", x.pressure(), 3);
        x.block(0, 8, 0);
        due("13: of one block, not of all", x.pressure(), 3);
        x.arc(3, 0, 1);
        due("13: live, not only used", x.pressure(), 4);
        x.block(3, 7, 8);
        due("13: less again", x.pressure(), 3);
        x.block(11, ALL_VARIABLES, 0);
        due("13: all", x.pressure(), 20);
        x.block(11, 0, 0);
        x.block(3, 0, 0);
        due("13: one", x.pressure(), 1);
        x.use(0, 3, 0);
        due("13: none", x.pressure(), 0);
        IncrLiveness y = new IncrLiveness();
        y.arc(0, 1, 1);
        y.block(1, 3, 0);
        y.block(0, 0, 1);
        y.arc(2, 1, 1);
        y.block(2, 4, 3);
        due("13: at the begin, not the end", y.pressure(), 2);
    }

    private static void promise14Reaching() {
        IncrLiveness x = chain(11);
        x.set(0, 19, 1);
        due("14: longest way", x.reaching(11, 19), 1);
        due("14: not itself without a circle", x.reaching(0, 19), 0);
        x.arc(11, 0, 1);
        due("14: itself round the longest circle", x.reaching(0, 19), 1);
        x.set(5, 19, 1);
        due("14: setter between stops", x.reaching(11, 19), 32);
        due("14: the last one may set", x.reaching(5, 19), 1);
        due("14: round the circle", x.reaching(0, 19), 32);
        x.use(5, 19, 1);
        due("14: uses don't matter", x.reaching(11, 19), 32);
        due("14: other variables don't matter", x.reaching(11, 18), 0);
        x.arc(0, 11, 1);
        due("14: two ways", x.reaching(11, 19), 33);
        x.arc(5, 5, 1);
        due("14: arc to itself", x.reaching(5, 19), 33);
        IncrLiveness all = new IncrLiveness();
        for (int b = 0; b < 12; b++) {
            all.arc(b, 11, 1);
            all.set(b, 0, 1);
        }
        due("14: from all", all.reaching(11, 0), ALL_BLOCKS);
        due("14: from none", all.reaching(0, 0), 0);
        IncrLiveness back = new IncrLiveness();
        for (int b = 11; b > 0; b--) {
            back.arc(b, b - 1, 1);
        }
        back.set(11, 6, 1);
        due("14: longest way downwards", back.reaching(0, 6), 1 << 11);
        back.arc(0, 11, 1);
        due("14: longest circle downwards", back.reaching(11, 6), 1 << 11);
        for (int bad : NO_BLOCKS) {
            due("14: reaching(" + bad + ", 6)", back.reaching(bad, 6), BAD);
        }
        for (int bad : NO_VARIABLES) {
            due("14: reaching(0, " + bad + ")", back.reaching(0, bad), BAD);
        }
    }

    private static void promise15Crowded() {
        IncrLiveness x = new IncrLiveness();
        x.block(0, 1, 0);
        x.block(1, 2, 0);
        due("15: apart", x.crowded(), 0);
        x.arc(0, 1, 1);
        due("15: together by an arc", x.crowded(), 1);
        x.block(11, 3, 0);
        due("15: one pair in two blocks", x.crowded(), 1);
        x.block(11, 1 | 1 << 19, 0);
        due("15: a second pair", x.crowded(), 2);
        x.block(5, 1 << 18 | 1 << 19, 0);
        due("15: the last two", x.crowded(), 3);
        x.block(6, 2 | 1 << 19, 0);
        due("15: pairs, not groups", x.crowded(), 4);
        x.block(7, ALL_VARIABLES, 0);
        due("15: all", x.crowded(), 190);
        x.block(7, 0, 0);
        x.set(0, 1, 1);
        due("15: set in between", x.crowded(), 3);
    }

    public static void main(String[] args) {
        promise1NewObject();
        promise2Arc();
        promise3HasArc();
        promise4Use();
        promise5Set();
        promise6Block();
        promise7CutOff();
        promise8TakeOver();
        promise9LiveIn();
        promise10LiveOut();
        promise11LiveBlocks();
        promise12IdleSets();
        promise13Pressure();
        promise14Reaching();
        promise15Crowded();
        System.out.println(wrong == 0 ? "all promises hold" : wrong + " answers are not as due");
        if (wrong != 0) {
            System.exit(1);
        }
    }
}
