/** Worked examples, promise by promise: ordinary inputs, the edges the document names, wrong inputs. */
public final class PromiseTest {
    private static final int BAD_POINT = -1;
    private static final int DUPLICATE = -2;
    private static final int FULL = -3;
    private static final int NO_POINT = -4;
    private static final int[] WRONG_IDS = {-1, -4, 24, 25, 1000, Integer.MIN_VALUE, Integer.MAX_VALUE};
    private static final int[] WRONG_COORDINATES = {-1, 128, -128, 1000, Integer.MIN_VALUE, Integer.MAX_VALUE};

    private static int wrong = 0;

    public static void main(String[] args) {
        constants();
        newObject();
        add();
        addRefused();
        addOrderOfTests();
        remove();
        clear();
        size();
        coordinates();
        treeTotal();
        treeEdge();
        hop();
        groups();
        groupOf();
        nearest();
        neighbour();
        linked();
        linkedWithTwoSides();
        linkedOnOneCircle();
        close();
        emptyCircle();
        emptyCircleBeyondInt();
        onHull();
        hullArea2();
        hopOrder();
        questionsChangeNothing();
        System.out.println(wrong == 0 ? "all answers are as due" : wrong + " answers are not as due");
        if (wrong != 0) {
            System.exit(1);
        }
    }

    private static void due(String call, int got, int want) {
        if (got != want) {
            wrong++;
            System.out.println(call + " answered " + got + ", due is " + want);
        }
    }

    private static void due(String call, boolean got, boolean want) {
        if (got != want) {
            wrong++;
            System.out.println(call + " answered " + got + ", due is " + want);
        }
    }

    private static DelaunayMst of(int... coordinates) {
        DelaunayMst set = new DelaunayMst();
        for (int i = 0; i + 1 < coordinates.length; i += 2) {
            due("add number " + i / 2, set.add(coordinates[i], coordinates[i + 1]), i / 2);
        }
        return set;
    }

    private static DelaunayMst fullSet() {
        DelaunayMst set = new DelaunayMst();
        for (int i = 0; i < 24; i++) {
            due("P2 add " + i, set.add(5 * i, i), i);
        }
        return set;
    }

    private static void constants() {
        due("BAD_POINT", DelaunayMst.BAD_POINT, BAD_POINT);
        due("DUPLICATE", DelaunayMst.DUPLICATE, DUPLICATE);
        due("FULL", DelaunayMst.FULL, FULL);
        due("NO_POINT", DelaunayMst.NO_POINT, NO_POINT);
    }

    private static void newObject() {
        DelaunayMst set = new DelaunayMst();
        due("P1 size", set.size(), 0);
        due("P1 treeTotal", set.treeTotal(), 0);
        due("P1 treeEdge(0)", set.treeEdge(0), NO_POINT);
        due("P1 groups", set.groups(Integer.MAX_VALUE), 0);
        due("P1 nearest", set.nearest(0, 0), NO_POINT);
        due("P1 hullArea2", set.hullArea2(), 0);
        for (int id = 0; id < 24; id++) {
            due("P1 xOf " + id, set.xOf(id), NO_POINT);
            due("P1 yOf " + id, set.yOf(id), NO_POINT);
            due("P1 onHull " + id, set.onHull(id), false);
        }
        // Two objects share nothing.
        DelaunayMst other = of(1, 1);
        due("P1 size of the first", set.size(), 0);
        due("P1 size of the second", other.size(), 1);
    }

    private static void add() {
        DelaunayMst set = of(0, 0, 127, 127, 0, 127, 127, 0, 64, 3);
        due("P2 size", set.size(), 5);
        due("P2 xOf(4)", set.xOf(4), 64);
        due("P2 yOf(4)", set.yOf(4), 3);
        due("P2 the mirrored point is another one", set.add(3, 64), 5);
        due("P2 remove(3)", set.remove(3), 5);
        due("P2 remove(1)", set.remove(1), 4);
        due("P2 smallest free id first", set.add(10, 10), 1);
        due("P2 then the next free id", set.add(11, 10), 3);
        due("P2 then a new id", set.add(12, 10), 6);
        due("P2 a removed place is free again", set.add(127, 127), 7);
    }

    private static void addRefused() {
        DelaunayMst set = of(5, 6);
        for (int bad : WRONG_COORDINATES) {
            due("P2 add(" + bad + ", 0)", set.add(bad, 0), BAD_POINT);
            due("P2 add(0, " + bad + ")", set.add(0, bad), BAD_POINT);
            due("P2 add(" + bad + ", " + bad + ")", set.add(bad, bad), BAD_POINT);
        }
        due("P2 duplicate", set.add(5, 6), DUPLICATE);
        due("P2 size after refusals", set.size(), 1);
        due("P2 xOf after refusals", set.xOf(0), 5);
        due("P2 yOf after refusals", set.yOf(0), 6);
        due("P2 same x alone is no duplicate", set.add(5, 7), 1);
        due("P2 same y alone is no duplicate", set.add(4, 6), 2);
    }

    private static void addOrderOfTests() {
        DelaunayMst set = fullSet();
        due("P2 full", set.add(127, 127), FULL);
        due("P2 duplicate before full", set.add(115, 23), DUPLICATE);
        due("P2 bad before full", set.add(128, 0), BAD_POINT);
        due("P2 bad before full", set.add(0, -1), BAD_POINT);
        due("P2 size", set.size(), 24);
        due("P2 remove(13)", set.remove(13), 23);
        due("P2 room again", set.add(127, 127), 13);
        due("P2 full again", set.add(65, 13), FULL);
        due("P2 size", set.size(), 24);
    }

    private static void remove() {
        DelaunayMst set = of(1, 2, 3, 4, 5, 6);
        for (int bad : WRONG_IDS) {
            due("P3 remove(" + bad + ")", set.remove(bad), NO_POINT);
        }
        due("P3 remove(3)", set.remove(3), NO_POINT);
        due("P3 size", set.size(), 3);
        due("P3 remove(1)", set.remove(1), 2);
        due("P3 remove(1) again", set.remove(1), NO_POINT);
        due("P3 size", set.size(), 2);
        due("P3 xOf(0)", set.xOf(0), 1);
        due("P3 xOf(1)", set.xOf(1), NO_POINT);
        due("P3 xOf(2)", set.xOf(2), 5);
        due("P3 yOf(2)", set.yOf(2), 6);
        due("P3 remove(0)", set.remove(0), 1);
        due("P3 remove(2)", set.remove(2), 0);
        due("P3 remove(2) again", set.remove(2), NO_POINT);
        due("P3 size", set.size(), 0);
        DelaunayMst full = fullSet();
        due("P3 remove(23)", full.remove(23), 23);
    }

    private static void clear() {
        DelaunayMst set = fullSet();
        set.clear();
        due("P4 size", set.size(), 0);
        for (int id = 0; id < 24; id++) {
            due("P4 xOf " + id, set.xOf(id), NO_POINT);
            due("P4 remove " + id, set.remove(id), NO_POINT);
        }
        due("P4 nearest", set.nearest(0, 0), NO_POINT);
        due("P4 hullArea2", set.hullArea2(), 0);
        due("P4 treeTotal", set.treeTotal(), 0);
        due("P4 a former point is no duplicate", set.add(115, 23), 0);
        set.clear();
        set.clear();
        due("P4 size after clearing twice", set.size(), 0);
    }

    private static void size() {
        DelaunayMst set = new DelaunayMst();
        for (int i = 0; i < 24; i++) {
            due("P5 size", set.size(), i);
            set.add(i, 127 - i);
        }
        due("P5 size", set.size(), 24);
        set.add(100, 100);
        due("P5 size after FULL", set.size(), 24);
        set.remove(7);
        due("P5 size after remove", set.size(), 23);
    }

    private static void coordinates() {
        DelaunayMst set = of(0, 127, 127, 0, 17, 99);
        due("P6 xOf(0)", set.xOf(0), 0);
        due("P6 xOf(1)", set.xOf(1), 127);
        due("P6 xOf(2)", set.xOf(2), 17);
        due("P6 xOf(3)", set.xOf(3), NO_POINT);
        due("P7 yOf(0)", set.yOf(0), 127);
        due("P7 yOf(1)", set.yOf(1), 0);
        due("P7 yOf(2)", set.yOf(2), 99);
        due("P7 yOf(3)", set.yOf(3), NO_POINT);
        for (int bad : WRONG_IDS) {
            due("P6 xOf(" + bad + ")", set.xOf(bad), NO_POINT);
            due("P7 yOf(" + bad + ")", set.yOf(bad), NO_POINT);
        }
        set.remove(0);
        due("P6 xOf(0) removed", set.xOf(0), NO_POINT);
        due("P7 yOf(0) removed", set.yOf(0), NO_POINT);
        DelaunayMst full = fullSet();
        due("P6 xOf(23)", full.xOf(23), 115);
        due("P7 yOf(23)", full.yOf(23), 23);
    }

    private static void treeTotal() {
        due("P8 one point", of(9, 9).treeTotal(), 0);
        due("P8 two points", of(0, 0, 127, 127).treeTotal(), 32258);
        // Squared lengths: going 0-1-2 costs 1 + 4, the straight edge 0-2 would cost 9.
        due("P8 three on a line", of(0, 0, 1, 0, 3, 0).treeTotal(), 5);
        due("P8 square with centre", of(0, 0, 10, 0, 10, 10, 0, 10, 5, 5).treeTotal(), 200);
        DelaunayMst set = of(50, 50, 0, 0, 3, 4, 100, 100);
        due("P8 four points", set.treeTotal(), 25 + 47 * 47 + 46 * 46 + 5000);
        set.remove(0);
        due("P8 without id 0", set.treeTotal(), 25 + 97 * 97 + 96 * 96);
        due("P8 full set", fullSet().treeTotal(), 23 * 26);
    }

    private static void treeEdge() {
        DelaunayMst set = of(50, 50, 0, 0, 3, 4, 100, 100);
        due("P9 treeEdge(0)", set.treeEdge(0), 25);
        due("P9 treeEdge(1)", set.treeEdge(1), 47 * 47 + 46 * 46);
        due("P9 treeEdge(2)", set.treeEdge(2), 5000);
        due("P9 treeEdge(3)", set.treeEdge(3), NO_POINT);
        for (int bad : WRONG_IDS) {
            due("P9 treeEdge(" + bad + ")", set.treeEdge(bad), NO_POINT);
        }
        due("P9 empty set", new DelaunayMst().treeEdge(0), NO_POINT);
        due("P9 empty set", new DelaunayMst().treeEdge(-1), NO_POINT);
        due("P9 empty set", new DelaunayMst().treeEdge(-2), NO_POINT);
        due("P9 one point", of(1, 1).treeEdge(0), NO_POINT);
        due("P9 one point", of(1, 1).treeEdge(-1), NO_POINT);
        due("P9 two points", of(1, 1, 1, 3).treeEdge(0), 4);
        due("P9 two points", of(1, 1, 1, 3).treeEdge(1), NO_POINT);
        DelaunayMst line = new DelaunayMst();
        int x = 0;
        // Gaps 9, 8, .. 1, so the tree's edges come in falling order from id 0 on.
        for (int gap = 9; gap >= 0; gap--) {
            line.add(x, 0);
            x += gap;
        }
        for (int k = 0; k < 9; k++) {
            due("P9 line " + k, line.treeEdge(k), (k + 1) * (k + 1));
        }
        due("P9 line 9", line.treeEdge(9), NO_POINT);
        due("P9 full set", fullSet().treeEdge(22), 26);
        due("P9 full set", fullSet().treeEdge(23), NO_POINT);
    }

    private static void hop() {
        DelaunayMst set = of(0, 0, 127, 0, 10, 0, 30, 0, 60, 0);
        due("P10 hop(0, 2)", set.hop(0, 2), 100);
        due("P10 hop(0, 3)", set.hop(0, 3), 400);
        due("P10 hop(4, 0)", set.hop(4, 0), 900);
        due("P10 hop(0, 1)", set.hop(0, 1), 67 * 67);
        due("P10 hop(2, 3)", set.hop(2, 3), 400);
        due("P10 hop(3, 3)", set.hop(3, 3), 0);
        // A small hop after a big one doesn't count.
        DelaunayMst far = of(0, 0, 50, 0, 51, 0, 53, 0);
        due("P10 hop(0, 3)", far.hop(0, 3), 2500);
        due("P10 hop(3, 0)", far.hop(3, 0), 2500);
        due("P10 hop(1, 3)", far.hop(1, 3), 4);
        due("P10 hop(1, 2)", far.hop(1, 2), 1);
        far.remove(2);
        due("P10 hop(1, 3) without 2", far.hop(1, 3), 9);
        for (int bad : WRONG_IDS) {
            due("P10 hop(0, " + bad + ")", set.hop(0, bad), NO_POINT);
            due("P10 hop(" + bad + ", 0)", set.hop(bad, 0), NO_POINT);
        }
        due("P10 hop(0, 5)", set.hop(0, 5), NO_POINT);
        due("P10 full set", fullSet().hop(23, 0), 26);
        due("P10 corners", of(0, 0, 127, 127).hop(0, 1), 32258);
    }

    private static void groups() {
        DelaunayMst set = of(0, 0, 1, 0, 3, 0, 10, 0, 10, 5);
        due("P11 groups(MIN)", set.groups(Integer.MIN_VALUE), 5);
        due("P11 groups(-1)", set.groups(-1), 5);
        due("P11 groups(0)", set.groups(0), 5);
        due("P11 groups(1)", set.groups(1), 4);
        due("P11 groups(3)", set.groups(3), 4);
        due("P11 groups(4)", set.groups(4), 3);
        due("P11 groups(24)", set.groups(24), 3);
        due("P11 groups(25)", set.groups(25), 2);
        due("P11 groups(48)", set.groups(48), 2);
        due("P11 groups(49)", set.groups(49), 1);
        due("P11 groups(MAX)", set.groups(Integer.MAX_VALUE), 1);
        due("P11 one point", of(4, 4).groups(-5), 1);
        due("P11 one point", of(4, 4).groups(5), 1);
        due("P11 full set", fullSet().groups(25), 24);
        due("P11 full set", fullSet().groups(26), 1);
        due("P11 empty", new DelaunayMst().groups(-1), 0);
        due("P11 empty", new DelaunayMst().groups(100), 0);
    }

    private static void groupOf() {
        DelaunayMst set = of(10, 0, 3, 0, 1, 0, 0, 0, 10, 5);
        due("P12 groupOf(3, 0)", set.groupOf(3, 0), 3);
        due("P12 groupOf(3, -1)", set.groupOf(3, -1), 3);
        due("P12 groupOf(3, MIN)", set.groupOf(3, Integer.MIN_VALUE), 3);
        due("P12 groupOf(3, 1)", set.groupOf(3, 1), 2);
        due("P12 groupOf(2, 1)", set.groupOf(2, 1), 2);
        due("P12 groupOf(1, 1)", set.groupOf(1, 1), 1);
        due("P12 groupOf(3, 4)", set.groupOf(3, 4), 1);
        due("P12 groupOf(3, 48)", set.groupOf(3, 48), 1);
        due("P12 groupOf(4, 24)", set.groupOf(4, 24), 4);
        due("P12 groupOf(4, 25)", set.groupOf(4, 25), 0);
        due("P12 groupOf(3, 49)", set.groupOf(3, 49), 0);
        due("P12 groupOf(3, MAX)", set.groupOf(3, Integer.MAX_VALUE), 0);
        due("P12 groupOf(5, 49)", set.groupOf(5, 49), NO_POINT);
        for (int bad : WRONG_IDS) {
            due("P12 groupOf(" + bad + ", 9)", set.groupOf(bad, 9), NO_POINT);
        }
        set.remove(0);
        due("P12 groupOf(4, MAX) without 0", set.groupOf(4, Integer.MAX_VALUE), 1);
        due("P12 groupOf(0, 9) removed", set.groupOf(0, 9), NO_POINT);
        due("P12 full set", fullSet().groupOf(23, 26), 0);
        due("P12 full set", fullSet().groupOf(23, 25), 23);
    }

    private static void nearest() {
        DelaunayMst set = of(10, 10, 20, 10, 127, 127);
        due("P13 on a point", set.nearest(20, 10), 1);
        due("P13 beside a point", set.nearest(16, 10), 1);
        due("P13 halfway: the smaller id", set.nearest(15, 40), 0);
        due("P13 corner", set.nearest(127, 127), 2);
        due("P13 corner", set.nearest(0, 0), 0);
        due("P13 corner", set.nearest(127, 0), 1);
        set.remove(0);
        due("P13 without 0", set.nearest(0, 0), 1);
        due("P13 new 0", set.add(30, 10), 0);
        due("P13 halfway, new 0", set.nearest(25, 3), 0);
        for (int bad : WRONG_COORDINATES) {
            due("P13 nearest(" + bad + ", 0)", set.nearest(bad, 0), BAD_POINT);
            due("P13 nearest(0, " + bad + ")", set.nearest(0, bad), BAD_POINT);
        }
        DelaunayMst empty = new DelaunayMst();
        due("P13 empty", empty.nearest(127, 127), NO_POINT);
        due("P13 bad before empty", empty.nearest(128, 0), BAD_POINT);
        due("P13 bad before empty", empty.nearest(0, -1), BAD_POINT);
    }

    private static void neighbour() {
        DelaunayMst set = of(10, 10, 20, 10, 30, 10, 30, 11);
        due("P14 neighbour(0)", set.neighbour(0), 1);
        due("P14 equally near: the smaller id", set.neighbour(1), 0);
        due("P14 neighbour(2)", set.neighbour(2), 3);
        due("P14 neighbour(3)", set.neighbour(3), 2);
        due("P14 neighbour(4)", set.neighbour(4), NO_POINT);
        for (int bad : WRONG_IDS) {
            due("P14 neighbour(" + bad + ")", set.neighbour(bad), NO_POINT);
        }
        set.remove(0);
        due("P14 neighbour(1) without 0", set.neighbour(1), 2);
        due("P14 neighbour(0) removed", set.neighbour(0), NO_POINT);
        due("P14 alone", of(3, 3).neighbour(0), NO_POINT);
        due("P14 empty", new DelaunayMst().neighbour(0), NO_POINT);
    }

    private static void dueLinked(String what, DelaunayMst set, int a, int b, boolean want) {
        due("P15 " + what + " linked(" + a + ", " + b + ")", set.linked(a, b), want);
        due("P15 " + what + " linked(" + b + ", " + a + ")", set.linked(b, a), want);
    }

    private static void linked() {
        DelaunayMst pair = of(0, 0, 127, 127);
        dueLinked("pair", pair, 0, 1, true);
        dueLinked("same", pair, 0, 0, false);
        dueLinked("no point", pair, 0, 2, false);
        dueLinked("no points", pair, 5, 6, false);
        dueLinked("no point twice", pair, 5, 5, false);
        for (int bad : WRONG_IDS) {
            dueLinked("wrong id", pair, 1, bad, false);
            dueLinked("wrong ids", pair, bad, bad, false);
        }
        DelaunayMst line = of(0, 0, 6, 3, 2, 1, 8, 4);
        dueLinked("line", line, 0, 2, true);
        dueLinked("line", line, 2, 1, true);
        dueLinked("line", line, 1, 3, true);
        dueLinked("line", line, 0, 1, false);
        dueLinked("line", line, 0, 3, false);
        line.remove(2);
        dueLinked("line with a gap", line, 0, 1, true);
        // Beside the segment, however near, a single point hinders nothing.
        DelaunayMst near = of(0, 0, 100, 0, 50, 1, 40, 2);
        dueLinked("one side", near, 0, 1, true);
    }

    private static void linkedWithTwoSides() {
        // c at (5, 5) leaves d at (5, -y) outside only if 5 * y > 25; here moved up by 20.
        dueLinked("d outside", of(0, 20, 10, 20, 5, 25, 5, 14), 0, 1, true);
        dueLinked("d on it", of(0, 20, 10, 20, 5, 25, 5, 15), 0, 1, false);
        dueLinked("d inside", of(0, 20, 10, 20, 5, 25, 5, 16), 0, 1, false);
        dueLinked("d outside, other order", of(5, 14, 0, 20, 5, 25, 10, 20), 1, 3, true);
        dueLinked("d inside, other order", of(5, 16, 0, 20, 5, 25, 10, 20), 1, 3, false);
        dueLinked("crossing link", of(0, 20, 10, 20, 5, 25, 5, 14), 2, 3, false);
        dueLinked("crossing link", of(0, 20, 10, 20, 5, 25, 5, 16), 2, 3, true);
        // Only the outermost circles on each side decide, wherever their ids are.
        DelaunayMst many = of(0, 20, 10, 20, 5, 60, 5, 14, 5, 27, 5, 1);
        dueLinked("many", many, 0, 1, true);
        due("P15 add", many.add(5, 25), 6);
        dueLinked("many, still out", many, 0, 1, true);
        due("P15 add", many.add(5, 16), 7);
        dueLinked("many, one in", many, 0, 1, false);
        many.remove(6);
        dueLinked("many, out again", many, 0, 1, true);
    }

    private static void linkedOnOneCircle() {
        DelaunayMst square = of(0, 0, 127, 0, 127, 127, 0, 127);
        dueLinked("square side", square, 0, 1, true);
        dueLinked("square side", square, 3, 0, true);
        dueLinked("square diagonal", square, 0, 2, false);
        dueLinked("square diagonal", square, 1, 3, false);
        // One step off the circle, with D times the turn beyond the range of an int.
        dueLinked("near the square", of(0, 0, 127, 0, 126, 127, 0, 127), 0, 2, true);
        dueLinked("near the square", of(0, 0, 127, 0, 126, 127, 0, 127), 1, 3, false);
    }

    private static void dueClose(String what, DelaunayMst set, int a, int b, boolean want) {
        due("P16 " + what + " close(" + a + ", " + b + ")", set.close(a, b), want);
        due("P16 " + what + " close(" + b + ", " + a + ")", set.close(b, a), want);
    }

    private static void close() {
        DelaunayMst pair = of(0, 0, 127, 127);
        dueClose("pair", pair, 0, 1, true);
        dueClose("same", pair, 1, 1, false);
        dueClose("no point", pair, 1, 2, false);
        dueClose("no points", pair, 7, 8, false);
        for (int bad : WRONG_IDS) {
            dueClose("wrong id", pair, 0, bad, false);
            dueClose("wrong ids", pair, bad, bad, false);
        }
        dueClose("outside", of(0, 0, 10, 0, 5, 6), 0, 1, true);
        dueClose("on it", of(0, 0, 10, 0, 5, 5), 0, 1, false);
        dueClose("on it, off the middle", of(0, 0, 10, 0, 2, 4), 0, 1, false);
        dueClose("inside", of(0, 0, 10, 0, 5, 4), 0, 1, false);
        dueClose("on the segment", of(0, 0, 10, 0, 1, 0), 0, 1, false);
        dueClose("beyond the segment", of(0, 0, 10, 0, 11, 0), 0, 1, true);
        dueClose("linked but not close", of(0, 0, 10, 0, 5, 1), 0, 1, false);
        dueClose("smaller id inside", of(5, 4, 0, 0, 10, 0), 1, 2, false);
        DelaunayMst set = of(0, 0, 10, 0, 5, 4);
        set.remove(2);
        dueClose("removed point", set, 0, 1, true);
    }

    private static void dueEmpty(String what, DelaunayMst set, int a, int b, int c, boolean want) {
        int[][] orders = {{a, b, c}, {b, c, a}, {c, a, b}, {a, c, b}, {c, b, a}, {b, a, c}};
        for (int[] o : orders) {
            String call = "emptyCircle(" + o[0] + ", " + o[1] + ", " + o[2] + ")";
            due("P17 " + what + " " + call, set.emptyCircle(o[0], o[1], o[2]), want);
        }
    }

    private static void emptyCircle() {
        DelaunayMst three = of(0, 0, 10, 0, 0, 10);
        dueEmpty("three", three, 0, 1, 2, true);
        dueEmpty("two alike", three, 0, 0, 1, false);
        dueEmpty("all alike", three, 1, 1, 1, false);
        dueEmpty("no point", three, 0, 1, 3, false);
        for (int bad : WRONG_IDS) {
            dueEmpty("wrong id", three, 0, 1, bad, false);
            dueEmpty("wrong ids", three, 2, bad, bad, false);
        }
        dueEmpty("on a line", of(0, 0, 10, 0, 20, 0), 0, 1, 2, false);
        dueEmpty("on a slanted line", of(0, 0, 2, 1, 6, 3, 100, 3), 0, 1, 2, false);
        dueEmpty("inside", of(0, 0, 10, 0, 0, 10, 9, 9), 0, 1, 2, false);
        dueEmpty("on it", of(0, 0, 10, 0, 0, 10, 10, 10), 0, 1, 2, false);
        dueEmpty("outside", of(0, 0, 10, 0, 0, 10, 10, 11), 0, 1, 2, true);
        dueEmpty("inside the triangle", of(0, 0, 10, 0, 0, 10, 1, 1), 0, 1, 2, false);
        dueEmpty("smaller id inside", of(1, 1, 0, 0, 10, 0, 0, 10), 1, 2, 3, false);
        DelaunayMst set = of(0, 0, 10, 0, 0, 10, 9, 9);
        set.remove(3);
        dueEmpty("removed point", set, 0, 1, 2, true);
        set.remove(2);
        dueEmpty("removed corner", set, 0, 1, 2, false);
    }

    private static void emptyCircleBeyondInt() {
        // One step in, D is 2032254 and the turn 16129: cut to an int their product turns negative.
        dueEmpty("square", of(0, 0, 127, 0, 0, 127, 127, 127), 0, 1, 2, false);
        dueEmpty("one step in", of(0, 0, 127, 0, 0, 127, 126, 127), 0, 1, 2, false);
        dueEmpty("one step out", of(0, 0, 126, 0, 0, 127, 127, 127), 0, 1, 2, true);
        // A flat triangle has a vast circle; the fourth point lies away from its centre, then towards it.
        dueEmpty("vast, away", of(0, 0, 64, 1, 127, 0, 64, 127), 0, 1, 2, true);
        dueEmpty("vast, towards", of(0, 1, 64, 0, 127, 1, 64, 127), 0, 1, 2, false);
    }

    private static void onHull() {
        due("P18 one point", of(5, 5).onHull(0), true);
        due("P18 two points", of(5, 5, 6, 6).onHull(0), true);
        due("P18 two points", of(5, 5, 6, 6).onHull(1), true);
        due("P18 no such point", of(5, 5, 6, 6).onHull(2), false);
        due("P18 empty", new DelaunayMst().onHull(0), false);
        DelaunayMst line = of(0, 0, 20, 10, 10, 5);
        for (int id = 0; id < 3; id++) {
            due("P18 line " + id, line.onHull(id), true);
        }
        DelaunayMst set = of(0, 0, 10, 0, 10, 10, 0, 10, 5, 0, 5, 1, 9, 9, 10, 7);
        for (int id = 0; id < 8; id++) {
            due("P18 square " + id, set.onHull(id), id != 5 && id != 6);
        }
        due("P18 square 8", set.onHull(8), false);
        for (int bad : WRONG_IDS) {
            due("P18 wrong id " + bad, set.onHull(bad), false);
        }
        set.remove(2);
        due("P18 without the corner 6", set.onHull(6), true);
        due("P18 without the corner 5", set.onHull(5), false);
        due("P18 without the corner 2", set.onHull(2), false);
    }

    private static void hullArea2() {
        due("P19 empty", new DelaunayMst().hullArea2(), 0);
        due("P19 one point", of(7, 9).hullArea2(), 0);
        due("P19 two points", of(7, 9, 100, 3).hullArea2(), 0);
        due("P19 line", of(10, 10, 30, 20, 20, 15, 50, 30).hullArea2(), 0);
        due("P19 upright line", of(10, 10, 10, 30, 10, 20).hullArea2(), 0);
        due("P19 triangle", of(1, 1, 4, 1, 1, 6).hullArea2(), 15);
        due("P19 triangle turned", of(1, 6, 4, 1, 1, 1).hullArea2(), 15);
        due("P19 whole field", of(0, 0, 127, 127, 127, 0, 0, 127).hullArea2(), 32258);
        DelaunayMst set = of(50, 50, 60, 50, 70, 50, 70, 60, 70, 70, 60, 70, 50, 70, 50, 60, 60, 60);
        due("P19 points on the sides", set.hullArea2(), 800);
        set.remove(4);
        due("P19 without a corner", set.hullArea2(), 700);
    }

    private static void hopOrder() {
        DelaunayMst set = of(5, 5, 7, 7);
        due("P20 hop(2, 2)", set.hop(2, 2), NO_POINT);
        due("P20 hop(23, 23)", set.hop(23, 23), NO_POINT);
        for (int bad : WRONG_IDS) {
            due("P20 hop(" + bad + ", " + bad + ")", set.hop(bad, bad), NO_POINT);
        }
        due("P20 hop(1, 1)", set.hop(1, 1), 0);
        set.remove(1);
        due("P20 hop(1, 1) removed", set.hop(1, 1), NO_POINT);
        due("P20 empty", new DelaunayMst().hop(0, 0), NO_POINT);
    }

    private static void questionsChangeNothing() {
        DelaunayMst set = of(50, 50, 0, 0, 3, 4, 100, 100, 90, 20);
        set.remove(2);
        for (int round = 0; round < 3; round++) {
            due("size", set.size(), 4);
            due("treeEdge(2)", set.treeEdge(2), 5000);
            due("treeTotal", set.treeTotal(), 5000 + 5000 + 1600 + 900);
            due("hop(1, 4)", set.hop(1, 4), 5000);
            due("groups(2500)", set.groups(2500), 3);
            due("groupOf(4, 2500)", set.groupOf(4, 2500), 0);
            due("nearest(51, 51)", set.nearest(51, 51), 0);
            due("neighbour(3)", set.neighbour(3), 0);
            due("linked(0, 3)", set.linked(0, 3), true);
            due("close(1, 3)", set.close(1, 3), false);
            due("emptyCircle(0, 3, 4)", set.emptyCircle(0, 3, 4), true);
            due("onHull(0)", set.onHull(0), true);
            due("hullArea2", set.hullArea2(), 7000);
            due("xOf(2)", set.xOf(2), NO_POINT);
            due("yOf(4)", set.yOf(4), 20);
        }
        due("add after the questions", set.add(3, 4), 2);
    }
}
