import java.util.ArrayList;
import java.util.LinkedHashMap;
import java.util.List;
import java.util.Map;
import java.util.function.Consumer;
import java.util.function.Function;
import java.util.function.IntUnaryOperator;
import java.util.function.Supplier;

/**
 * One test for each sentence of the document that names a boundary case, named after the sentence or its part.
 * No object gets more than 512 calls here, as the document leaves free what later calls answer; the test of
 * rule 7 alone goes beyond that, and looks at no answer there.
 */
public final class BoundaryTest {
    private static final int BAD_POINT = -1;
    private static final int DUPLICATE = -2;
    private static final int FULL = -3;
    private static final int NO_POINT = -4;
    private static final int MIN = Integer.MIN_VALUE;
    private static final int MAX = Integer.MAX_VALUE;
    // 32, 64, 256 and 65536 turn into 0 where a shift, a byte or a short drops the upper bits.
    private static final int[] NO_IDS = {-1, -2, -4, -24, -32, 24, 25, 31, 32, 64, 127, 128, 256, 65536, MIN, MIN + 1, MAX - 1, MAX};
    private static final int[] BAD_COORDINATES = {-1, -2, -127, -128, 128, 129, 255, 256, 65536, MIN, MIN + 1, MAX - 1, MAX};
    private static final int[] ANY_INTS = {MIN, MIN + 1, -65536, -4, -1, 0, 1, 2, 11, 22, 23, 24, 25, 31, 32, 127, 128, 256, 32258, 65536,
        MAX - 1, MAX};
    private static final int[] ASKED = {MIN, -1, 0, 1, 2, 3, 4, 5, 6, 7, 8, 9, 10, 11, 12, 13, 14, 15, 16, 17, 18, 19, 20, 21, 22, 23, 24,
        MAX};
    private static final int[] HOLES = {0, 3, 4, 11, 22, 23};
    private static final int GREATEST_DISTANCE = 127 * 127 + 127 * 127;

    private static String sentence = "";
    private static int wrong = 0;
    private static int brokenSentences = 0;
    private static int sentences = 0;

    public static void main(String[] args) {
        whatItIs();
        terms();
        promises1To4();
        promises5To7();
        promises8To10();
        promises11And12();
        promises13And14();
        promise15();
        promises16And17();
        promises18And19();
        promise20AndRule7();
        System.out.println(brokenSentences + " of " + sentences + " sentences are broken");
        if (brokenSentences != 0) {
            System.exit(1);
        }
    }

    private static void test(String words, Runnable body) {
        sentence = words;
        wrong = 0;
        sentences++;
        try {
            body.run();
        } catch (RuntimeException thrown) {
            tell("a call threw " + thrown);
        }
        if (wrong != 0) {
            brokenSentences++;
        }
    }

    private static void tell(String text) {
        wrong++;
        if (wrong <= 5) {
            System.out.println("[" + sentence + "] " + text);
        }
    }

    private static void due(String call, int got, int want) {
        if (got != want) {
            tell(call + " answered " + got + ", due is " + want);
        }
    }

    private static void due(String call, boolean got, boolean want) {
        if (got != want) {
            tell(call + " answered " + got + ", due is " + want);
        }
    }

    private static void due(String what, List<Integer> got, List<Integer> want) {
        if (!got.equals(want)) {
            tell(what + ": the answers are " + got + ", due are " + want);
        }
    }

    private static DelaunayMst of(int... coordinates) {
        DelaunayMst set = new DelaunayMst();
        for (int i = 0; i + 1 < coordinates.length; i += 2) {
            due("add number " + i / 2, set.add(coordinates[i], coordinates[i + 1]), i / 2);
        }
        return set;
    }

    private static int fullX(int i) {
        return 5 * i;
    }

    private static int fullY(int i) {
        return 53 * i % 128;
    }

    /** The first points of a set whose y go up and down; no two of the 24 share their x. */
    private static DelaunayMst scattered(int count) {
        DelaunayMst set = new DelaunayMst();
        for (int i = 0; i < count; i++) {
            due("add number " + i, set.add(fullX(i), fullY(i)), i);
        }
        return set;
    }

    private static DelaunayMst full() {
        return scattered(24);
    }

    private static DelaunayMst withHoles() {
        DelaunayMst set = full();
        for (int id : HOLES) {
            set.remove(id);
        }
        return set;
    }

    /** A set whose only point has this id. */
    private static DelaunayMst only(int id, int x, int y) {
        DelaunayMst set = new DelaunayMst();
        for (int i = 0; i < id; i++) {
            set.add(x == 0 ? 1 : 0, i);
        }
        due("add of the only point", set.add(x, y), id);
        for (int i = 0; i < id; i++) {
            set.remove(i);
        }
        return set;
    }

    private static DelaunayMst emptied() {
        DelaunayMst set = full();
        for (int id = 0; id < 24; id++) {
            set.remove(id);
        }
        return set;
    }

    private static DelaunayMst cleared() {
        DelaunayMst set = full();
        set.clear();
        return set;
    }

    private static List<Supplier<DelaunayMst>> emptySets() {
        return List.of(DelaunayMst::new, BoundaryTest::emptied, BoundaryTest::cleared);
    }

    private static List<Supplier<DelaunayMst>> allKinds() {
        return List.of(DelaunayMst::new, BoundaryTest::emptied, BoundaryTest::cleared, () -> only(0, 64, 64),
            () -> only(23, 127, 0), () -> scattered(2), () -> scattered(3), BoundaryTest::withHoles, BoundaryTest::full,
            BoundaryTest::circleWithCentre);
    }

    /** Twelve points, ids 0 to 11, on the circle with radius 5 around (64, 64), going round it. */
    private static DelaunayMst circle() {
        return of(69, 64, 68, 67, 67, 68, 64, 69, 61, 68, 60, 67, 59, 64, 60, 61, 61, 60, 64, 59, 67, 60, 68, 61);
    }

    private static DelaunayMst circleWithCentre() {
        DelaunayMst set = circle();
        due("add of the centre", set.add(64, 64), 12);
        return set;
    }

    private static int one(boolean answer) {
        return answer ? 1 : 0;
    }

    private static List<Integer> ask(int[] arguments, IntUnaryOperator question) {
        List<Integer> all = new ArrayList<>();
        for (int argument : arguments) {
            all.add(question.applyAsInt(argument));
        }
        return all;
    }

    /** Every question by its name, asked with arguments of all kinds, with fewer than 256 calls each. */
    private static Map<String, Function<DelaunayMst, List<Integer>>> questions() {
        Map<String, Function<DelaunayMst, List<Integer>>> all = new LinkedHashMap<>();
        all.put("size", set -> List.of(set.size()));
        all.put("xOf", set -> ask(ASKED, set::xOf));
        all.put("yOf", set -> ask(ASKED, set::yOf));
        all.put("treeTotal", set -> List.of(set.treeTotal()));
        all.put("treeEdge", set -> ask(ASKED, set::treeEdge));
        all.put("hop", set -> ask(ASKED, id -> set.hop(id, 5)));
        all.put("groups", set -> ask(ASKED, limit -> set.groups(limit * 40)));
        all.put("groupOf", set -> ask(ASKED, id -> set.groupOf(id, 1500)));
        all.put("nearest", set -> ask(ASKED, x -> set.nearest(x * 5, 127 - x * 5)));
        all.put("neighbour", set -> ask(ASKED, set::neighbour));
        all.put("linked", set -> ask(ASKED, id -> one(set.linked(id, 5))));
        all.put("close", set -> ask(ASKED, id -> one(set.close(id, id + 1))));
        all.put("emptyCircle", set -> ask(ASKED, id -> one(set.emptyCircle(id, id + 1, 12))));
        all.put("onHull", set -> ask(ASKED, id -> one(set.onHull(id))));
        all.put("hullArea2", set -> List.of(set.hullArea2()));
        return all;
    }

    /** Each question, put to two sets of its own so that no other question can come between, is answered alike. */
    private static void answerAlike(String what, Supplier<DelaunayMst> got, Supplier<DelaunayMst> want) {
        questions().forEach((name, question) ->
            due(what + ", then " + name, question.apply(got.get()), question.apply(want.get())));
        due(what + ", then changes", change(got.get()), change(want.get()));
    }

    private static List<Integer> change(DelaunayMst set) {
        return List.of(set.add(126, 125), set.remove(1), set.add(125, 126), set.remove(23), set.add(124, 0), set.size());
    }

    private static void changesNothing(String what, Supplier<DelaunayMst> made, Consumer<DelaunayMst> calls) {
        Supplier<DelaunayMst> withCalls = () -> {
            DelaunayMst set = made.get();
            calls.accept(set);
            return set;
        };
        answerAlike(what, withCalls, made);
    }

    private static void dueEmpty(DelaunayMst set) {
        due("size()", set.size(), 0);
        due("treeTotal()", set.treeTotal(), 0);
        due("treeEdge(0)", set.treeEdge(0), NO_POINT);
        due("groups(MAX)", set.groups(MAX), 0);
        due("nearest(0, 0)", set.nearest(0, 0), NO_POINT);
        due("hullArea2()", set.hullArea2(), 0);
        for (int id = 0; id < 24; id++) {
            due("xOf(" + id + ")", set.xOf(id), NO_POINT);
            due("yOf(" + id + ")", set.yOf(id), NO_POINT);
            due("hop(" + id + ", " + id + ")", set.hop(id, id), NO_POINT);
            due("groupOf(" + id + ", 0)", set.groupOf(id, 0), NO_POINT);
            due("neighbour(" + id + ")", set.neighbour(id), NO_POINT);
            due("onHull(" + id + ")", set.onHull(id), false);
            due("remove(" + id + ")", set.remove(id), NO_POINT);
        }
    }

    // ---- What it is

    private static void whatItIs() {
        test("What it is: at most 24 points", BoundaryTest::atMost24);
        test("What it is: whole coordinates, 0 to 127 each", BoundaryTest::coordinates0To127);
        test("What it is: no two alike", BoundaryTest::noTwoAlike);
        test("What it is: at most 512 calls, changes", BoundaryTest::changesUpToCall512);
        test("What it is: at most 512 calls, questions", BoundaryTest::questionsUpToCall512);
    }

    private static void atMost24() {
        DelaunayMst set = new DelaunayMst();
        for (int i = 0; i < 100; i++) {
            due("add number " + i, set.add(i, i), i < 24 ? i : FULL);
            due("size() after add number " + i, set.size(), i < 24 ? i + 1 : 24);
        }
    }

    private static void coordinates0To127() {
        for (int v = -3; v < 131; v++) {
            boolean fine = v >= 0 && v <= 127;
            due("add(" + v + ", 0)", new DelaunayMst().add(v, 0), fine ? 0 : BAD_POINT);
            due("add(127, " + v + ")", new DelaunayMst().add(127, v), fine ? 0 : BAD_POINT);
            if (fine) {
                due("xOf(0)", of(v, 127 - v).xOf(0), v);
                due("yOf(0)", of(127 - v, v).yOf(0), v);
            }
        }
    }

    private static void noTwoAlike() {
        DelaunayMst set = withHoles();
        for (int i = 0; i < 24; i++) {
            boolean held = set.xOf(i) != NO_POINT;
            due("add of what id " + i + " had", set.add(fullX(i), fullY(i)) == DUPLICATE, held);
        }
        due("size()", set.size(), 24);
        for (int a = 0; a < 24; a++) {
            due("add of what was there", set.add(fullX(a), fullY(a)), DUPLICATE);
        }
        DelaunayMst corners = of(0, 0, 0, 127, 127, 0, 127, 127);
        due("add(0, 1)", corners.add(0, 1), 4);
        due("add(1, 0), with both numbers swapped", corners.add(1, 0), 5);
        due("add(127, 127)", corners.add(127, 127), DUPLICATE);
        due("add(0, 0)", corners.add(0, 0), DUPLICATE);
    }

    private static void changesUpToCall512() {
        DelaunayMst set = full();
        for (int pair = 0; pair < 243; pair++) {
            int id = pair * 7 % 24;
            due("call " + (25 + 2 * pair) + ": remove(" + id + ")", set.remove(id), 23);
            due("call " + (26 + 2 * pair) + ": add", set.add(pair % 128, 127 - pair / 128), id);
        }
        due("call 511: add", set.add(127, 0), FULL);
        due("call 512: remove(23)", set.remove(23), 23);
    }

    private static void questionsUpToCall512() {
        DelaunayMst set = of(0, 0, 10, 0, 10, 5);
        for (int call = 4; call <= 511; call += 4) {
            due("call " + call + ": treeEdge(0)", set.treeEdge(0), 25);
            due("call " + (call + 1) + ": hop(0, 2)", set.hop(0, 2), 100);
            due("call " + (call + 2) + ": emptyCircle(0, 1, 2)", set.emptyCircle(0, 1, 2), true);
            due("call " + (call + 3) + ": groupOf(2, 30)", set.groupOf(2, 30), 1);
        }
        due("call 512: hop(1, 2)", set.hop(1, 2), 25);
    }

    // ---- Terms

    private static void terms() {
        test("Terms: an id from 0 to 23", BoundaryTest::idFrom0To23);
        test("Terms: the squared distance of two points, the least and the greatest", BoundaryTest::squaredDistance);
        test("Terms: 0 if the three lie on one line", BoundaryTest::turnIs0);
        test("Terms: inside if D times the turn is positive", BoundaryTest::insideTheCircle);
        test("Terms: on the circle if D is 0", BoundaryTest::onTheCircle);
        test("Terms: outside if D times the turn is negative", BoundaryTest::outsideTheCircle);
        test("Terms: D times the turn, in both turning directions", BoundaryTest::bothTurns);
        test("Terms: D times the turn does not fit an int", BoundaryTest::beyondInt);
        callsThatChangeNothing();
    }

    private static void idFrom0To23() {
        DelaunayMst set = full();
        for (int id = 0; id < 24; id++) {
            due("xOf(" + id + ")", set.xOf(id), fullX(id));
            due("groupOf(" + id + ", -1)", set.groupOf(id, -1), id);
            due("hop(" + id + ", " + id + ")", set.hop(id, id), 0);
        }
        for (int id : NO_IDS) {
            due("xOf(" + id + ")", set.xOf(id), NO_POINT);
            due("yOf(" + id + ")", set.yOf(id), NO_POINT);
            due("groupOf(" + id + ", MAX)", set.groupOf(id, MAX), NO_POINT);
            due("neighbour(" + id + ")", set.neighbour(id), NO_POINT);
            due("onHull(" + id + ")", set.onHull(id), false);
            due("remove(" + id + ")", set.remove(id), NO_POINT);
        }
        due("size()", set.size(), 24);
    }

    private static void squaredDistance() {
        due("hop over the diagonal", of(0, 0, 127, 127).hop(0, 1), GREATEST_DISTANCE);
        due("hop over the other diagonal", of(0, 127, 127, 0).hop(0, 1), GREATEST_DISTANCE);
        due("hop of one step", of(127, 127, 127, 126).hop(0, 1), 1);
        due("hop of one step", of(126, 0, 127, 0).hop(0, 1), 1);
        due("hop of 3 and 4", of(10, 10, 7, 14).hop(0, 1), 25);
    }

    private static void turnIs0() {
        due("on the diagonal", of(0, 0, 127, 127, 64, 64).emptyCircle(0, 1, 2), false);
        due("one step beside it", of(0, 0, 127, 127, 64, 63).emptyCircle(0, 1, 2), true);
        due("hullArea2 on the diagonal", of(0, 0, 127, 127, 64, 64).hullArea2(), 0);
        due("hullArea2 one step beside it", of(0, 0, 127, 127, 64, 63).hullArea2(), 127);
        due("the least turn", of(0, 0, 127, 126, 126, 125).hullArea2(), 1);
        due("the least turn, no line", of(0, 0, 127, 126, 126, 125).emptyCircle(0, 1, 2), true);
    }

    private static void insideTheCircle() {
        due("centre", of(4, 4, 14, 4, 4, 14, 9, 9).emptyCircle(0, 1, 2), false);
        due("one step in", of(4, 4, 14, 4, 4, 14, 14, 13).emptyCircle(0, 1, 2), false);
        due("one step in, beyond a side", of(4, 4, 14, 4, 4, 14, 9, 3).emptyCircle(0, 1, 2), false);
        due("one step in from the field's corner", of(0, 0, 127, 0, 0, 127, 126, 127).emptyCircle(0, 1, 2), false);
    }

    private static void onTheCircle() {
        DelaunayMst three = of(69, 64, 64, 69, 59, 64);
        due("no fourth point", three.emptyCircle(0, 1, 2), true);
        int[][] onIt = {{68, 67}, {67, 68}, {61, 68}, {60, 67}, {60, 61}, {61, 60}, {64, 59}, {67, 60}, {68, 61}};
        for (int[] d : onIt) {
            due("add", three.add(d[0], d[1]), 3);
            due("with (" + d[0] + ", " + d[1] + ") on it", three.emptyCircle(0, 1, 2), false);
            due("without it", three.remove(3), 3);
        }
        due("the field's corners", of(0, 0, 127, 0, 127, 127, 0, 127).emptyCircle(0, 1, 2), false);
        due("linked across the circle", circle().linked(0, 6), false);
    }

    private static void outsideTheCircle() {
        due("far", of(4, 4, 14, 4, 4, 14, 127, 127).emptyCircle(0, 1, 2), true);
        due("one step out", of(4, 4, 14, 4, 4, 14, 14, 15).emptyCircle(0, 1, 2), true);
        due("one step out, beyond a side", of(4, 4, 14, 4, 4, 14, 9, 1).emptyCircle(0, 1, 2), true);
        due("one step out at the field's corner", of(0, 0, 126, 0, 0, 127, 127, 127).emptyCircle(0, 1, 2), true);
    }

    private static void bothTurns() {
        int[][] orders = {{0, 1, 2}, {1, 2, 0}, {2, 0, 1}, {0, 2, 1}, {2, 1, 0}, {1, 0, 2}};
        for (int[] o : orders) {
            String order = o[0] + " " + o[1] + " " + o[2];
            due("inside, " + order, of(4, 4, 14, 4, 4, 14, 13, 13).emptyCircle(o[0], o[1], o[2]), false);
            due("on it, " + order, of(4, 4, 14, 4, 4, 14, 14, 14).emptyCircle(o[0], o[1], o[2]), false);
            due("outside, " + order, of(4, 4, 14, 4, 4, 14, 15, 14).emptyCircle(o[0], o[1], o[2]), true);
        }
    }

    private static void beyondInt() {
        // The turn is 4096; in an int the products would be -1207959552, 1711276032 and 0.
        due("inside, D is 2850816", of(0, 0, 64, 0, 0, 64, 6, 6).emptyCircle(0, 1, 2), false);
        due("outside, D is -9019392", of(0, 0, 64, 0, 0, 64, 67, 87).emptyCircle(0, 1, 2), true);
        due("outside, D is -5242880", of(0, 0, 64, 0, 0, 64, 80, 64).emptyCircle(0, 1, 2), true);
        due("linked, D is -9019392", of(64, 0, 0, 64, 0, 0, 67, 87).linked(0, 1), true);
        due("linked, D is -5242880", of(64, 0, 0, 64, 0, 0, 80, 64).linked(0, 1), true);
    }

    private static void callsThatChangeNothing() {
        questions().forEach((name, question) ->
            test("Terms: The calls below change nothing that any call answers: " + name, () -> {
                for (Supplier<DelaunayMst> made : allKinds()) {
                    changesNothing(name, made, question::apply);
                }
            }));
    }

    // ---- Promises 1 to 4: a new object, add, remove, clear

    private static void promises1To4() {
        test("Promise 1: The set is empty", () -> dueEmpty(new DelaunayMst()));
        test("Promise 1: The set is empty, whatever another object holds", BoundaryTest::newBesideAnother);
        test("Promise 2: x not in 0 to 127: BAD_POINT", BoundaryTest::addBadX);
        test("Promise 2: y not in 0 to 127: BAD_POINT", BoundaryTest::addBadY);
        test("Promise 2: the set has a point with these coordinates: DUPLICATE", BoundaryTest::addDuplicate);
        test("Promise 2: the set has 24 points: FULL", BoundaryTest::addFull);
        test("Promise 2: in this order: BAD_POINT before FULL", BoundaryTest::addBadBeforeFull);
        test("Promise 2: in this order: BAD_POINT before DUPLICATE", BoundaryTest::addBadBeforeDuplicate);
        test("Promise 2: in this order: DUPLICATE before FULL", BoundaryTest::addDuplicateBeforeFull);
        test("Promise 2: A refused call changes nothing: BAD_POINT", BoundaryTest::addBadChangesNothing);
        test("Promise 2: A refused call changes nothing: DUPLICATE", BoundaryTest::addDuplicateChangesNothing);
        test("Promise 2: A refused call changes nothing: FULL", BoundaryTest::addFullChangesNothing);
        test("Promise 2: the smallest id that no point has", BoundaryTest::addSmallestId);
        test("Promise 3: the other points keep their ids", BoundaryTest::removeKeepsIds);
        test("Promise 3: No point has this id: NO_POINT", BoundaryTest::removeNoPoint);
        test("Promise 3: NO_POINT, nothing changes", BoundaryTest::removeNoPointChangesNothing);
        test("Promise 3: answers how many points are left", BoundaryTest::removeAnswersLeft);
        test("Promise 4: Takes all points out", BoundaryTest::clearTakesAllOut);
        test("Promise 4: Takes all points out, as if the object were new", BoundaryTest::clearLikeNew);
    }

    private static void newBesideAnother() {
        DelaunayMst before = new DelaunayMst();
        DelaunayMst other = full();
        dueEmpty(new DelaunayMst());
        dueEmpty(before);
        due("size() of the other", other.size(), 24);
        for (int id = 0; id < 24; id++) {
            dueKept(other, id);
        }
        due("add of the same coordinates in another object", before.add(fullX(7), fullY(7)), 0);
    }

    private static void addBadX() {
        for (int bad : BAD_COORDINATES) {
            due("add(" + bad + ", 0)", new DelaunayMst().add(bad, 0), BAD_POINT);
            due("add(" + bad + ", 127)", of(0, 127, 127, 127).add(bad, 127), BAD_POINT);
        }
        due("add(0, 5)", new DelaunayMst().add(0, 5), 0);
        due("add(127, 5)", new DelaunayMst().add(127, 5), 0);
    }

    private static void addBadY() {
        for (int bad : BAD_COORDINATES) {
            due("add(0, " + bad + ")", new DelaunayMst().add(0, bad), BAD_POINT);
            due("add(127, " + bad + ")", of(127, 0, 127, 127).add(127, bad), BAD_POINT);
        }
        due("add(5, 0)", new DelaunayMst().add(5, 0), 0);
        due("add(5, 127)", new DelaunayMst().add(5, 127), 0);
    }

    private static void addDuplicate() {
        for (int id = 0; id < 24; id++) {
            DelaunayMst set = only(id, 0, 127);
            due("add of what id " + id + " has", set.add(0, 127), DUPLICATE);
            due("add with the same x alone", set.add(0, 126), id == 0 ? 1 : 0);
            due("add with the same y alone", set.add(1, 127), id <= 1 ? 2 : 1);
            due("remove(" + id + ")", set.remove(id), 2);
            due("add of what is no longer there", set.add(0, 127) >= 0, true);
        }
    }

    private static void addFull() {
        DelaunayMst set = scattered(23);
        due("add number 23", set.add(127, 127), 23);
        due("add number 24", set.add(126, 127), FULL);
        due("add number 24 again", set.add(126, 127), FULL);
        for (int id = 0; id < 24; id++) {
            due("remove(" + id + ")", set.remove(id), 23);
            due("add into the gap", set.add(126, id), id);
            due("add when full again", set.add(0, 127), FULL);
        }
    }

    private static void addBadBeforeFull() {
        DelaunayMst set = full();
        for (int bad : BAD_COORDINATES) {
            due("add(" + bad + ", 127)", set.add(bad, 127), BAD_POINT);
            due("add(127, " + bad + ")", set.add(127, bad), BAD_POINT);
            due("add(" + bad + ", " + bad + ")", set.add(bad, bad), BAD_POINT);
        }
        due("add(127, 127)", set.add(127, 127), FULL);
    }

    private static void addBadBeforeDuplicate() {
        // Only a point that was let in wrongly could be met again, so each is tried twice.
        DelaunayMst set = of(0, 0, 127, 127);
        for (int bad : BAD_COORDINATES) {
            for (int time = 0; time < 2; time++) {
                due("add(" + bad + ", 0)", set.add(bad, 0), BAD_POINT);
                due("add(127, " + bad + ")", set.add(127, bad), BAD_POINT);
                due("add(" + bad + ", " + bad + ")", set.add(bad, bad), BAD_POINT);
            }
        }
    }

    private static void addDuplicateBeforeFull() {
        DelaunayMst set = full();
        for (int id = 0; id < 24; id++) {
            due("add of what id " + id + " has", set.add(fullX(id), fullY(id)), DUPLICATE);
        }
        due("add(127, 127)", set.add(127, 127), FULL);
    }

    private static void addBadChangesNothing() {
        for (Supplier<DelaunayMst> made : allKinds()) {
            changesNothing("after BAD_POINT", made, set -> {
                for (int bad : BAD_COORDINATES) {
                    due("add(" + bad + ", 3)", set.add(bad, 3), BAD_POINT);
                    due("add(3, " + bad + ")", set.add(3, bad), BAD_POINT);
                }
            });
        }
    }

    private static void addDuplicateChangesNothing() {
        for (Supplier<DelaunayMst> made : allKinds()) {
            changesNothing("after DUPLICATE", made, set -> {
                for (int id = 0; id < 24; id++) {
                    if (set.xOf(id) != NO_POINT) {
                        due("add of what id " + id + " has", set.add(set.xOf(id), set.yOf(id)), DUPLICATE);
                    }
                }
            });
        }
    }

    private static void addFullChangesNothing() {
        changesNothing("after FULL", BoundaryTest::full, set -> {
            for (int y = 0; y < 24; y++) {
                due("add(127, " + y + ")", set.add(127, y), FULL);
            }
        });
        DelaunayMst set = full();
        due("add(127, 127)", set.add(127, 127), FULL);
        due("remove(12)", set.remove(12), 23);
        due("the refused point is not there", set.add(127, 127), 12);
    }

    private static void addSmallestId() {
        DelaunayMst set = withHoles();
        int[] ids = {0, 3, 4, 11, 22, 23, FULL};
        for (int i = 0; i < ids.length; i++) {
            due("add number " + i + " into the holes", set.add(127, i), ids[i]);
        }
        DelaunayMst last = full();
        due("remove(23)", last.remove(23), 23);
        due("remove(0)", last.remove(0), 22);
        due("add after 23 and then 0 went", last.add(127, 1), 0);
        due("one more add", last.add(127, 2), 23);
        DelaunayMst few = only(23, 5, 5);
        for (int id = 0; id < 23; id++) {
            due("add before the only point", few.add(60, id), id);
        }
        due("add when all are taken", few.add(61, 0), FULL);
    }

    private static void dueKept(DelaunayMst set, int id) {
        due("xOf(" + id + ")", set.xOf(id), fullX(id));
        due("yOf(" + id + ")", set.yOf(id), fullY(id));
    }

    private static void removeKeepsIds() {
        for (int gone = 0; gone < 24; gone++) {
            DelaunayMst set = full();
            set.remove(gone);
            for (int id = 0; id < 24; id++) {
                if (id != gone) {
                    dueKept(set, id);
                }
            }
            due("xOf(" + gone + ") gone", set.xOf(gone), NO_POINT);
        }
        DelaunayMst odd = full();
        for (int id = 0; id < 24; id += 2) {
            odd.remove(id);
        }
        for (int id = 1; id < 24; id += 2) {
            dueKept(odd, id);
        }
    }

    private static void removeNoPoint() {
        for (Supplier<DelaunayMst> made : allKinds()) {
            DelaunayMst set = made.get();
            for (int id : NO_IDS) {
                due("remove(" + id + ")", set.remove(id), NO_POINT);
            }
            for (int id = 0; id < 24; id++) {
                boolean there = set.xOf(id) != NO_POINT;
                due("remove(" + id + ") refused", set.remove(id) == NO_POINT, !there);
                due("remove(" + id + ") once more", set.remove(id), NO_POINT);
            }
        }
    }

    private static void removeNoPointChangesNothing() {
        for (Supplier<DelaunayMst> made : allKinds()) {
            changesNothing("after NO_POINT", made, set -> {
                for (int id : NO_IDS) {
                    due("remove(" + id + ")", set.remove(id), NO_POINT);
                }
                for (int id = 0; id < 24; id++) {
                    if (set.xOf(id) == NO_POINT) {
                        due("remove(" + id + ")", set.remove(id), NO_POINT);
                    }
                }
            });
        }
    }

    private static void removeAnswersLeft() {
        DelaunayMst up = full();
        DelaunayMst down = full();
        DelaunayMst across = full();
        for (int i = 0; i < 24; i++) {
            due("remove(" + i + ")", up.remove(i), 23 - i);
            due("remove(" + (23 - i) + ")", down.remove(23 - i), 23 - i);
            due("remove(" + i * 7 % 24 + ")", across.remove(i * 7 % 24), 23 - i);
        }
        due("the only point", only(23, 0, 0).remove(23), 0);
    }

    private static void clearTakesAllOut() {
        for (Supplier<DelaunayMst> made : allKinds()) {
            DelaunayMst set = made.get();
            set.clear();
            dueEmpty(set);
            set.clear();
            due("size() after clearing once more", set.size(), 0);
        }
    }

    private static DelaunayMst filledFromTheEnd(DelaunayMst set) {
        for (int i = 0; i < 24; i++) {
            due("add number " + i, set.add(fullX(23 - i), fullY(23 - i)), i);
        }
        due("add number 24", set.add(127, 127), FULL);
        return set;
    }

    private static DelaunayMst clearedOf(DelaunayMst set) {
        set.clear();
        return set;
    }

    private static void clearLikeNew() {
        for (Supplier<DelaunayMst> made : allKinds()) {
            answerAlike("after clear", () -> clearedOf(made.get()), DelaunayMst::new);
            answerAlike("after clear and 24 adds", () -> filledFromTheEnd(clearedOf(made.get())),
                () -> filledFromTheEnd(new DelaunayMst()));
        }
    }

    // ---- Promises 5 to 7: size, xOf, yOf

    private static void promises5To7() {
        test("Promise 5: size of a set with no point", () -> {
            for (Supplier<DelaunayMst> made : emptySets()) {
                due("size()", made.get().size(), 0);
            }
        });
        test("Promise 5: size of a set with 24 points, and on the way there and back", BoundaryTest::sizeUpAndDown);
        test("Promise 6: xOf of a set with 24 points", BoundaryTest::xOfFull);
        test("Promise 6: xOf: NO_POINT if no point has this id", () -> noCoordinate(true));
        test("Promise 7: yOf of a set with 24 points", BoundaryTest::yOfFull);
        test("Promise 7: yOf: NO_POINT if no point has this id", () -> noCoordinate(false));
    }

    private static void sizeUpAndDown() {
        DelaunayMst set = new DelaunayMst();
        for (int i = 0; i < 24; i++) {
            due("size() on the way up", set.size(), i);
            set.add(fullX(i), fullY(i));
        }
        due("size() when full", set.size(), 24);
        set.add(127, 127);
        due("size() after FULL", set.size(), 24);
        for (int i = 0; i < 24; i++) {
            set.remove(23 - i);
            due("size() on the way down", set.size(), 23 - i);
        }
        set.remove(0);
        due("size() after NO_POINT", set.size(), 0);
    }

    private static void xOfFull() {
        DelaunayMst set = full();
        for (int id = 0; id < 24; id++) {
            due("xOf(" + id + ")", set.xOf(id), fullX(id));
        }
        due("xOf of the least x", only(23, 0, 127).xOf(23), 0);
        due("xOf of the greatest x", only(23, 127, 0).xOf(23), 127);
    }

    private static void yOfFull() {
        DelaunayMst set = full();
        for (int id = 0; id < 24; id++) {
            due("yOf(" + id + ")", set.yOf(id), fullY(id));
        }
        due("yOf of the least y", only(23, 127, 0).yOf(23), 0);
        due("yOf of the greatest y", only(23, 0, 127).yOf(23), 127);
    }

    private static int coordinate(DelaunayMst set, boolean ofX, int id) {
        return ofX ? set.xOf(id) : set.yOf(id);
    }

    private static void noCoordinate(boolean ofX) {
        for (Supplier<DelaunayMst> made : allKinds()) {
            for (int id : NO_IDS) {
                due("with " + id, coordinate(made.get(), ofX, id), NO_POINT);
            }
        }
        for (Supplier<DelaunayMst> made : emptySets()) {
            for (int id = 0; id < 24; id++) {
                due("empty set, with " + id, coordinate(made.get(), ofX, id), NO_POINT);
            }
        }
        for (int id : HOLES) {
            due("hole, with " + id, coordinate(withHoles(), ofX, id), NO_POINT);
        }
        for (int id = 5; id < 24; id++) {
            due("five points, with " + id, coordinate(scattered(5), ofX, id), NO_POINT);
        }
    }

    // ---- Promises 8 to 10: treeTotal, treeEdge, hop

    private static void promises8To10() {
        test("Promise 8: 0 if the set has fewer than two points", BoundaryTest::treeTotalOfFew);
        test("Promise 8: two points are enough, and 24 are not too many", BoundaryTest::treeTotalOfMany);
        test("Promise 9: NO_POINT if k is not in 0 to size - 2", BoundaryTest::treeEdgeBounds);
        test("Promise 9: put in ascending order, the first and the last", BoundaryTest::treeEdgeEnds);
        test("Promise 10: 0 if a == b", BoundaryTest::hopToItself);
        test("Promise 10: No point a: NO_POINT", BoundaryTest::hopFromNoPoint);
        test("Promise 10: No point b: NO_POINT", BoundaryTest::hopToNoPoint);
        test("Promise 10: of squared distance at most m: m itself is enough", BoundaryTest::hopJustEnough);
    }

    private static void treeTotalOfFew() {
        for (Supplier<DelaunayMst> made : emptySets()) {
            due("treeTotal() with no point", made.get().treeTotal(), 0);
        }
        for (int id = 0; id < 24; id++) {
            due("treeTotal() with point " + id + " alone", only(id, 127, 127).treeTotal(), 0);
        }
        DelaunayMst set = full();
        for (int id = 0; id < 23; id++) {
            set.remove(id);
        }
        due("treeTotal() with one of 24 left", set.treeTotal(), 0);
    }

    private static void treeTotalOfMany() {
        due("two points, one step", of(5, 5, 5, 6).treeTotal(), 1);
        due("two points, the greatest distance", of(0, 0, 127, 127).treeTotal(), GREATEST_DISTANCE);
        DelaunayMst ends = full();
        for (int id = 1; id < 23; id++) {
            ends.remove(id);
        }
        due("points 0 and 23 alone", ends.treeTotal(), fullX(23) * fullX(23) + fullY(23) * fullY(23));
        due("24 in a row", row(24).treeTotal(), 23 * 25);
    }

    /** Points at x = 0, 5, 10, .. so that every edge of the tree has squared length 25. */
    private static DelaunayMst row(int count) {
        DelaunayMst set = new DelaunayMst();
        for (int i = 0; i < count; i++) {
            set.add(5 * i, 10);
        }
        return set;
    }

    private static void treeEdgeBounds() {
        for (int size = 0; size <= 24; size++) {
            DelaunayMst set = row(size);
            for (int k = -3; k <= 26; k++) {
                boolean fine = k >= 0 && k <= size - 2;
                due("treeEdge(" + k + ") with " + size + " points", set.treeEdge(k), fine ? 25 : NO_POINT);
            }
            for (int k : NO_IDS) {
                due("treeEdge(" + k + ") with " + size + " points", set.treeEdge(k), NO_POINT);
            }
        }
        DelaunayMst holes = row(24);
        holes.remove(0);
        holes.remove(10);
        due("treeEdge(20) with 22 points", holes.treeEdge(20), 100);
        due("treeEdge(21) with 22 points", holes.treeEdge(21), NO_POINT);
        for (Supplier<DelaunayMst> made : emptySets()) {
            due("treeEdge(-2) with no point", made.get().treeEdge(-2), NO_POINT);
            due("treeEdge(-1) with no point", made.get().treeEdge(-1), NO_POINT);
            due("treeEdge(0) with no point", made.get().treeEdge(0), NO_POINT);
        }
    }

    private static void treeEdgeEnds() {
        // The gaps, from id 0 on, are 15, 1, 14, 2, .. 8, so the order of ids is no ascending one.
        DelaunayMst set = new DelaunayMst();
        int x = 0;
        for (int i = 0; i < 15; i++) {
            due("add number " + i, set.add(x, 3), i);
            x += i % 2 == 0 ? 15 - i / 2 : 1 + i / 2;
        }
        due("size - 2 and no more", set.treeEdge(14), NO_POINT);
        int[] gaps = {1, 2, 3, 4, 5, 6, 7, 9, 10, 11, 12, 13, 14, 15};
        for (int k = 0; k < gaps.length; k++) {
            due("treeEdge(" + k + ")", set.treeEdge(k), gaps[k] * gaps[k]);
        }
        due("the greatest edge there can be", of(127, 0, 0, 127).treeEdge(0), GREATEST_DISTANCE);
    }

    private static void hopToItself() {
        for (int id = 0; id < 24; id++) {
            due("hop(" + id + ", " + id + ") when full", full().hop(id, id), 0);
            due("hop(" + id + ", " + id + ") alone", only(id, 9, 9).hop(id, id), 0);
        }
        due("hop to another point is not 0", of(9, 9, 9, 10).hop(0, 1), 1);
    }

    private static void hopFromNoPoint() {
        for (int a : NO_IDS) {
            due("hop(" + a + ", 0)", full().hop(a, 0), NO_POINT);
            due("hop(" + a + ", 23)", full().hop(a, 23), NO_POINT);
        }
        for (int a : HOLES) {
            due("hop(" + a + ", 1) from a hole", withHoles().hop(a, 1), NO_POINT);
        }
        due("hop(5, 0) beyond the last", scattered(5).hop(5, 0), NO_POINT);
    }

    private static void hopToNoPoint() {
        for (int b : NO_IDS) {
            due("hop(0, " + b + ")", full().hop(0, b), NO_POINT);
            due("hop(23, " + b + ")", full().hop(23, b), NO_POINT);
        }
        for (int b : HOLES) {
            due("hop(1, " + b + ") to a hole", withHoles().hop(1, b), NO_POINT);
        }
        due("hop(0, 5) beyond the last", scattered(5).hop(0, 5), NO_POINT);
        due("hop(7, 9) with neither", scattered(5).hop(7, 9), NO_POINT);
        for (Supplier<DelaunayMst> made : emptySets()) {
            due("hop(0, 1) with no point", made.get().hop(0, 1), NO_POINT);
        }
    }

    private static void hopJustEnough() {
        DelaunayMst set = of(0, 0, 20, 0, 10, 0, 50, 0);
        due("hop(0, 1) over 2", set.hop(0, 1), 100);
        due("hop(0, 3)", set.hop(0, 3), 900);
        due("groups of hop's answer", set.groups(900), 1);
        due("groups of one less", set.groups(899), 2);
        set.remove(2);
        due("hop(0, 1) without 2", set.hop(0, 1), 400);
        due("hop between two corners", of(127, 0, 0, 127).hop(1, 0), GREATEST_DISTANCE);
    }

    // ---- Promises 11 and 12: groups, groupOf

    private static void promises11And12() {
        test("Promise 11: a point alone is a group", BoundaryTest::aloneIsAGroup);
        test("Promise 11: 0 if the set is empty", BoundaryTest::groupsOfNone);
        test("Promise 11: limit is any int", BoundaryTest::anyLimit);
        test("Promise 11: squared distance at most 'limit'", BoundaryTest::atMostLimit);
        test("Promise 12: No such point: NO_POINT", BoundaryTest::groupOfNoPoint);
        test("Promise 12: The smallest id in the point's group", BoundaryTest::groupOfSmallest);
        test("Promise 12: for this limit, which is any int", BoundaryTest::groupOfAnyLimit);
    }

    private static void aloneIsAGroup() {
        for (int id = 0; id < 24; id++) {
            due("groups(0), point " + id + " alone", only(id, 5, 5).groups(0), 1);
            due("groups(MAX), point " + id + " alone", only(id, 5, 5).groups(MAX), 1);
            due("groups(MIN), point " + id + " alone", only(id, 5, 5).groups(MIN), 1);
            due("groupOf(" + id + ", 0) alone", only(id, 5, 5).groupOf(id, 0), id);
        }
        due("24 points, each alone", row(24).groups(24), 24);
        due("one alone beside a pair", of(0, 0, 1, 0, 100, 100).groups(1), 2);
    }

    private static void groupsOfNone() {
        for (Supplier<DelaunayMst> made : emptySets()) {
            for (int limit : ANY_INTS) {
                due("groups(" + limit + ")", made.get().groups(limit), 0);
            }
        }
    }

    private static void anyLimit() {
        for (int limit : ANY_INTS) {
            due("groups(" + limit + ") of 24 in a row", row(24).groups(limit), limit < 25 ? 24 : 1);
            due("groups(" + limit + ") of corners", of(0, 0, 127, 127).groups(limit), limit < GREATEST_DISTANCE ? 2 : 1);
        }
    }

    private static void atMostLimit() {
        DelaunayMst set = of(0, 0, 3, 4, 3, 5, 127, 127);
        due("groups(0)", set.groups(0), 4);
        due("groups(1)", set.groups(1), 3);
        due("groups(24)", set.groups(24), 3);
        due("groups(25)", set.groups(25), 2);
        due("groups one below the last hop", set.groups(124 * 124 + 122 * 122 - 1), 2);
        due("groups with the last hop", set.groups(124 * 124 + 122 * 122), 1);
        due("groupOf(1, 24)", set.groupOf(1, 24), 1);
        due("groupOf(1, 25)", set.groupOf(1, 25), 0);
    }

    private static void groupOfNoPoint() {
        for (int limit : ANY_INTS) {
            for (int id : NO_IDS) {
                due("groupOf(" + id + ", " + limit + ")", full().groupOf(id, limit), NO_POINT);
            }
            for (int id : HOLES) {
                due("groupOf(" + id + ", " + limit + ") in a hole", withHoles().groupOf(id, limit), NO_POINT);
            }
            for (Supplier<DelaunayMst> made : emptySets()) {
                due("groupOf(0, " + limit + ") with no point", made.get().groupOf(0, limit), NO_POINT);
            }
        }
    }

    private static void groupOfSmallest() {
        // The chain runs 5, 4, .. 0 by steps of 1, so the smallest id is the farthest.
        DelaunayMst set = of(6, 0, 5, 0, 4, 0, 3, 0, 2, 0, 1, 0);
        for (int id = 0; id < 6; id++) {
            due("groupOf(" + id + ", 1)", set.groupOf(id, 1), 0);
            due("groupOf(" + id + ", 0)", set.groupOf(id, 0), id);
        }
        set.remove(0);
        due("groupOf(5, 1) without 0", set.groupOf(5, 1), 1);
        set.remove(3);
        due("groupOf(5, 1) without 3", set.groupOf(5, 1), 4);
        due("groupOf(5, 3) without 3", set.groupOf(5, 3), 4);
        due("groupOf(5, 4) without 3", set.groupOf(5, 4), 1);
        due("groupOf(2, 1) without 3", set.groupOf(2, 1), 1);
        due("groupOf(23, 25) of 24 in a row", row(24).groupOf(23, 25), 0);
        due("groupOf(23, 24) of 24 in a row", row(24).groupOf(23, 24), 23);
    }

    private static void groupOfAnyLimit() {
        for (int limit : ANY_INTS) {
            due("groupOf(23, " + limit + ") of 24 in a row", row(24).groupOf(23, limit), limit < 25 ? 23 : 0);
            due("groupOf(1, " + limit + ") of corners", of(0, 0, 127, 127).groupOf(1, limit), limit < GREATEST_DISTANCE ? 1 : 0);
            due("groupOf(7, " + limit + ") alone", only(7, 3, 3).groupOf(7, limit), 7);
        }
    }

    // ---- Promises 13 and 14: nearest, neighbour

    private static void promises13And14() {
        test("Promise 13: of several equally near the smallest id", BoundaryTest::nearestOfSeveral);
        test("Promise 13: the place (x, y), which needn't be a point of the set", BoundaryTest::nearestPlaces);
        test("Promise 13: x not in 0 to 127: BAD_POINT", BoundaryTest::nearestBadX);
        test("Promise 13: y not in 0 to 127: BAD_POINT", BoundaryTest::nearestBadY);
        test("Promise 13: the set is empty: NO_POINT", BoundaryTest::nearestOfNone);
        test("Promise 13: in this order: BAD_POINT before NO_POINT", BoundaryTest::nearestBadBeforeNone);
        test("Promise 14: of several equally near the smallest id", BoundaryTest::neighbourOfSeveral);
        test("Promise 14: No such point: NO_POINT", BoundaryTest::neighbourOfNoPoint);
        test("Promise 14: no other point in the set: NO_POINT", BoundaryTest::neighbourAlone);
        test("Promise 14: the other point, near or far", BoundaryTest::neighbourOfTwo);
    }

    private static void nearestOfSeveral() {
        DelaunayMst set = circle();
        for (int id = 0; id < 12; id++) {
            due("nearest(64, 64) from id " + id + " on", set.nearest(64, 64), id);
            set.remove(id);
        }
        DelaunayMst back = circle();
        for (int id = 0; id < 11; id++) {
            back.remove(id);
        }
        due("nearest(64, 64) with 11 alone", back.nearest(64, 64), 11);
        due("add", back.add(59, 64), 0);
        due("nearest(64, 64) when a smaller id came later", back.nearest(64, 64), 0);
        due("a larger id that is nearer", of(0, 0, 10, 0, 5, 0).nearest(5, 1), 2);
    }

    private static void nearestPlaces() {
        DelaunayMst set = of(0, 0, 127, 127);
        due("nearest(0, 0), a point itself", set.nearest(0, 0), 0);
        due("nearest(127, 127), a point itself", set.nearest(127, 127), 1);
        due("nearest(127, 0), as far from both", set.nearest(127, 0), 0);
        due("nearest(0, 127), as far from both", set.nearest(0, 127), 0);
        due("nearest(64, 63), as far from both", set.nearest(64, 63), 0);
        due("nearest(64, 64)", set.nearest(64, 64), 1);
        due("the greatest distance", only(23, 0, 127).nearest(127, 0), 23);
        for (int id = 0; id < 24; id++) {
            due("nearest to what point " + id + " has", full().nearest(fullX(id), fullY(id)), id);
        }
    }

    private static void nearestBadX() {
        for (int bad : BAD_COORDINATES) {
            due("nearest(" + bad + ", 0)", full().nearest(bad, 0), BAD_POINT);
            due("nearest(" + bad + ", 127)", of(0, 127, 127, 127).nearest(bad, 127), BAD_POINT);
        }
        due("nearest(0, 5)", of(5, 5).nearest(0, 5), 0);
        due("nearest(127, 5)", of(5, 5).nearest(127, 5), 0);
    }

    private static void nearestBadY() {
        for (int bad : BAD_COORDINATES) {
            due("nearest(0, " + bad + ")", full().nearest(0, bad), BAD_POINT);
            due("nearest(127, " + bad + ")", of(127, 0, 127, 127).nearest(127, bad), BAD_POINT);
        }
        due("nearest(5, 0)", of(5, 5).nearest(5, 0), 0);
        due("nearest(5, 127)", of(5, 5).nearest(5, 127), 0);
    }

    private static void nearestOfNone() {
        for (Supplier<DelaunayMst> made : emptySets()) {
            due("nearest(0, 0)", made.get().nearest(0, 0), NO_POINT);
            due("nearest(127, 127)", made.get().nearest(127, 127), NO_POINT);
            due("nearest(64, 0)", made.get().nearest(64, 0), NO_POINT);
        }
    }

    private static void nearestBadBeforeNone() {
        for (Supplier<DelaunayMst> made : emptySets()) {
            for (int bad : BAD_COORDINATES) {
                due("nearest(" + bad + ", 0)", made.get().nearest(bad, 0), BAD_POINT);
                due("nearest(0, " + bad + ")", made.get().nearest(0, bad), BAD_POINT);
                due("nearest(" + bad + ", " + bad + ")", made.get().nearest(bad, bad), BAD_POINT);
            }
        }
    }

    private static void neighbourOfSeveral() {
        DelaunayMst set = circleWithCentre();
        for (int id = 0; id < 12; id++) {
            due("neighbour(12) from id " + id + " on", set.neighbour(12), id);
            set.remove(id);
        }
        DelaunayMst cross = of(64, 64, 64, 74, 74, 64, 54, 64, 64, 54);
        for (int id = 1; id < 5; id++) {
            due("neighbour(0) from id " + id + " on", cross.neighbour(0), id);
            cross.remove(id);
        }
        due("a larger id that is nearer", of(0, 0, 10, 0, 5, 0).neighbour(0), 2);
    }

    private static void neighbourOfNoPoint() {
        for (int id : NO_IDS) {
            due("neighbour(" + id + ")", full().neighbour(id), NO_POINT);
        }
        for (int id : HOLES) {
            due("neighbour(" + id + ") of a hole", withHoles().neighbour(id), NO_POINT);
        }
        for (int id = 5; id < 24; id++) {
            due("neighbour(" + id + ") with five points", scattered(5).neighbour(id), NO_POINT);
        }
        for (Supplier<DelaunayMst> made : emptySets()) {
            due("neighbour(0) with no point", made.get().neighbour(0), NO_POINT);
        }
    }

    private static void neighbourAlone() {
        for (int id = 0; id < 24; id++) {
            due("neighbour(" + id + ") alone", only(id, 64, 64).neighbour(id), NO_POINT);
        }
        DelaunayMst set = of(1, 1, 2, 2);
        due("neighbour(0)", set.neighbour(0), 1);
        set.remove(1);
        due("neighbour(0) when the other has gone", set.neighbour(0), NO_POINT);
    }

    private static void neighbourOfTwo() {
        due("neighbour(0), the greatest distance", of(0, 0, 127, 127).neighbour(0), 1);
        due("neighbour(1), the greatest distance", of(0, 0, 127, 127).neighbour(1), 0);
        DelaunayMst ends = only(23, 5, 5);
        due("add", ends.add(6, 5), 0);
        due("neighbour(23)", ends.neighbour(23), 0);
        due("neighbour(0)", ends.neighbour(0), 23);
        due("neighbour(23) of 24 in a row", row(24).neighbour(23), 22);
    }

    // ---- Promise 15: linked

    private static void promise15() {
        test("Promise 15: every other point outside it (not inside)", BoundaryTest::linkedInside);
        test("Promise 15: every other point outside it (not on it)", BoundaryTest::linkedOn);
        test("Promise 15: some circle has every other point outside it", BoundaryTest::linkedOutside);
        test("Promise 15: False if a == b", BoundaryTest::linkedToItself);
        test("Promise 15: False if one of them is no point of the set", BoundaryTest::linkedNoPoint);
        test("Promise 15: no other point lies on the straight segment between a and b", BoundaryTest::linkedSegment);
        test("Promise 15: strictly on different sides of the line", BoundaryTest::linkedStrictly);
    }

    private static void dueLinked(String what, DelaunayMst set, int a, int b, boolean want) {
        due(what + ", linked(" + a + ", " + b + ")", set.linked(a, b), want);
        due(what + ", linked(" + b + ", " + a + ")", set.linked(b, a), want);
    }

    private static void linkedInside() {
        dueLinked("one step in", of(59, 64, 69, 64, 64, 69, 64, 60), 0, 1, false);
        dueLinked("one step in, off the middle", of(59, 64, 69, 64, 64, 69, 67, 61), 0, 1, false);
        dueLinked("smaller ids", of(64, 69, 64, 60, 59, 64, 69, 64), 2, 3, false);
        DelaunayMst last = only(23, 64, 60);
        due("add", last.add(59, 64), 0);
        due("add", last.add(69, 64), 1);
        dueLinked("one side alone", last, 0, 1, true);
        due("add", last.add(64, 69), 2);
        dueLinked("with the largest id", last, 0, 1, false);
    }

    private static void linkedOn() {
        dueLinked("opposite", of(59, 64, 69, 64, 64, 69, 64, 59), 0, 1, false);
        dueLinked("off the middle", of(59, 64, 69, 64, 64, 69, 67, 60), 0, 1, false);
        dueLinked("a chord that is no diameter", of(60, 61, 68, 61, 64, 69, 64, 59), 0, 1, false);
        dueLinked("the field's corners", of(0, 0, 127, 0, 127, 127, 0, 127), 0, 2, false);
        dueLinked("the field's corners", of(0, 0, 127, 0, 127, 127, 0, 127), 1, 3, false);
        DelaunayMst round = circle();
        for (int a = 0; a < 12; a++) {
            for (int b = 0; b < 12; b++) {
                int way = (b - a + 12) % 12;
                due("round the circle, linked(" + a + ", " + b + ")", round.linked(a, b), way == 1 || way == 11);
            }
        }
    }

    private static void linkedOutside() {
        dueLinked("two points alone", of(0, 0, 127, 127), 0, 1, true);
        dueLinked("one step out", of(59, 64, 69, 64, 64, 69, 64, 58), 0, 1, true);
        dueLinked("one step out, off the middle", of(59, 64, 69, 64, 64, 69, 67, 59), 0, 1, true);
        dueLinked("one side alone, however near", of(0, 0, 127, 0, 64, 1, 1, 1, 126, 1), 0, 1, true);
        dueLinked("without what was inside", without(3, of(59, 64, 69, 64, 64, 69, 64, 60)), 0, 1, true);
        dueLinked("from the centre", circleWithCentre(), 12, 0, true);
        dueLinked("24 in a row", row(24), 22, 23, true);
    }

    private static DelaunayMst without(int id, DelaunayMst set) {
        set.remove(id);
        return set;
    }

    private static void linkedToItself() {
        for (int id = 0; id < 24; id++) {
            due("linked(" + id + ", " + id + ")", full().linked(id, id), false);
            due("linked(" + id + ", " + id + ") alone", only(id, 4, 4).linked(id, id), false);
        }
    }

    private static void linkedNoPoint() {
        for (int bad : NO_IDS) {
            dueLinked("a wrong id", of(1, 1, 2, 2), 0, bad, false);
            dueLinked("two wrong ids", of(1, 1, 2, 2), bad, bad, false);
            dueLinked("two wrong ids", full(), bad, bad == 24 ? 25 : 24, false);
        }
        for (int id : HOLES) {
            dueLinked("a hole", withHoles(), 1, id, false);
        }
        dueLinked("one point alone", of(1, 1), 0, 1, false);
        dueLinked("the other one has gone", without(1, of(1, 1, 2, 2)), 0, 1, false);
        for (Supplier<DelaunayMst> made : emptySets()) {
            dueLinked("no point", made.get(), 0, 1, false);
        }
    }

    private static void linkedSegment() {
        dueLinked("in the middle", of(0, 0, 10, 0, 5, 0), 0, 1, false);
        dueLinked("next to an end", of(0, 0, 127, 127, 1, 1), 0, 1, false);
        dueLinked("next to the other end", of(0, 0, 127, 127, 126, 126), 0, 1, false);
        dueLinked("upright", of(7, 0, 7, 127, 7, 100), 0, 1, false);
        dueLinked("slanted", of(0, 9, 9, 0, 6, 3), 0, 1, false);
        dueLinked("slanted, a smaller id", of(6, 3, 0, 9, 9, 0), 1, 2, false);
        dueLinked("beside the segment", of(0, 0, 10, 0, 5, 1), 0, 1, true);
        dueLinked("up to the middle", of(0, 0, 10, 0, 5, 0), 0, 2, true);
        dueLinked("when it has gone", without(2, of(0, 0, 10, 0, 5, 0)), 0, 1, true);
        dueLinked("24 in a row, over one", row(24), 0, 2, false);
        dueLinked("24 in a row, over all", row(24), 0, 23, false);
    }

    private static void linkedStrictly() {
        dueLinked("beyond both ends", of(10, 10, 20, 10, 9, 10, 21, 10), 0, 1, true);
        dueLinked("beyond the ends, slanted", of(10, 10, 20, 15, 8, 9, 22, 16), 0, 1, true);
        dueLinked("beyond an end and one side", of(10, 10, 20, 10, 21, 10, 15, 11), 0, 1, true);
        dueLinked("beyond an end and the other side", of(10, 10, 20, 10, 9, 10, 15, 9), 0, 1, true);
        dueLinked("two on the same side, one in the other's circle", of(10, 10, 20, 10, 15, 17, 15, 12), 0, 1, true);
        dueLinked("two on the other side", of(10, 10, 20, 10, 15, 3, 15, 8), 0, 1, true);
        dueLinked("on different sides", of(10, 10, 20, 10, 15, 12, 15, 8), 0, 1, false);
        dueLinked("on different sides and beyond the ends", of(10, 10, 20, 10, 9, 10, 21, 10, 15, 12, 15, 8), 0, 1, false);
    }

    // ---- Promises 16 and 17: close, emptyCircle

    private static void promises16And17() {
        test("Promise 16: less than the squared distance of a and b", BoundaryTest::closeLess);
        test("Promise 16: or equal to the squared distance of a and b", BoundaryTest::closeEqual);
        test("Promise 16: every other point outside", BoundaryTest::closeOutside);
        test("Promise 16: False if a == b", BoundaryTest::closeToItself);
        test("Promise 16: False if one of them is no point of the set", BoundaryTest::closeNoPoint);
        test("Promise 17: three different points", BoundaryTest::circleOfDifferent);
        test("Promise 17: points of the set", BoundaryTest::circleOfNoPoint);
        test("Promise 17: not on one line", BoundaryTest::circleOfLine);
        test("Promise 17: every other point is outside (not inside)", BoundaryTest::circleInside);
        test("Promise 17: every other point is outside (not on it)", BoundaryTest::circleOn);
        test("Promise 17: every other point is outside", BoundaryTest::circleOutside);
    }

    private static void dueClose(String what, DelaunayMst set, int a, int b, boolean want) {
        due(what + ", close(" + a + ", " + b + ")", set.close(a, b), want);
        due(what + ", close(" + b + ", " + a + ")", set.close(b, a), want);
    }

    private static void closeLess() {
        dueClose("one step in", of(59, 64, 69, 64, 64, 68), 0, 1, false);
        dueClose("one step in, below", of(59, 64, 69, 64, 64, 60), 0, 1, false);
        dueClose("18 and 20, the least below equal", of(0, 0, 4, 2, 2, 3), 0, 1, false);
        dueClose("on the segment", of(59, 64, 69, 64, 60, 64), 0, 1, false);
        dueClose("smaller id", of(64, 68, 59, 64, 69, 64), 1, 2, false);
        DelaunayMst last = only(23, 64, 68);
        due("add", last.add(59, 64), 0);
        due("add", last.add(69, 64), 1);
        dueClose("largest id", last, 0, 1, false);
    }

    private static void closeEqual() {
        int[][] onIt = {{68, 67}, {67, 68}, {64, 69}, {61, 68}, {60, 67}, {60, 61}, {61, 60}, {64, 59}, {67, 60}, {68, 61}};
        for (int[] c : onIt) {
            dueClose("(" + c[0] + ", " + c[1] + ") on it", of(59, 64, 69, 64, c[0], c[1]), 0, 1, false);
        }
        dueClose("the field's corners", of(0, 0, 127, 127, 0, 127), 0, 1, false);
        dueClose("the field's corners", of(0, 0, 127, 127, 127, 0), 0, 1, false);
    }

    private static void closeOutside() {
        dueClose("two points alone", of(0, 0, 127, 127), 0, 1, true);
        dueClose("6 and 4, the least above equal", of(0, 0, 2, 0, 0, 1), 0, 1, true);
        dueClose("6 and 4, from the other end", of(0, 1, 2, 1, 2, 0), 0, 1, true);
        dueClose("one step out", of(59, 64, 69, 64, 64, 70), 0, 1, true);
        dueClose("one step out, below", of(59, 64, 69, 64, 64, 58), 0, 1, true);
        dueClose("beyond an end", of(59, 64, 69, 64, 58, 64), 0, 1, true);
        dueClose("beyond the other end", of(59, 64, 69, 64, 70, 64), 0, 1, true);
        dueClose("without what was inside", without(2, of(59, 64, 69, 64, 64, 68)), 0, 1, true);
        dueClose("24 in a row", row(24), 22, 23, true);
    }

    private static void closeToItself() {
        for (int id = 0; id < 24; id++) {
            due("close(" + id + ", " + id + ")", full().close(id, id), false);
            due("close(" + id + ", " + id + ") alone", only(id, 4, 4).close(id, id), false);
        }
    }

    private static void closeNoPoint() {
        for (int bad : NO_IDS) {
            dueClose("a wrong id", of(1, 1, 2, 2), 0, bad, false);
            dueClose("two wrong ids", of(1, 1, 2, 2), bad, bad, false);
            dueClose("two wrong ids", full(), bad, bad == 24 ? 25 : 24, false);
        }
        for (int id : HOLES) {
            dueClose("a hole", withHoles(), 1, id, false);
        }
        dueClose("one point alone", of(1, 1), 0, 1, false);
        dueClose("the other one has gone", without(1, of(1, 1, 2, 2)), 0, 1, false);
        for (Supplier<DelaunayMst> made : emptySets()) {
            dueClose("no point", made.get(), 0, 1, false);
        }
    }

    private static void dueCircle(String what, DelaunayMst set, int a, int b, int c, boolean want) {
        int[][] orders = {{a, b, c}, {b, c, a}, {c, a, b}, {a, c, b}, {c, b, a}, {b, a, c}};
        for (int[] o : orders) {
            String call = ", emptyCircle(" + o[0] + ", " + o[1] + ", " + o[2] + ")";
            due(what + call, set.emptyCircle(o[0], o[1], o[2]), want);
        }
    }

    private static void circleOfDifferent() {
        DelaunayMst three = of(0, 0, 10, 0, 0, 10);
        for (int a = 0; a < 3; a++) {
            for (int b = 0; b < 3; b++) {
                dueCircle("one twice", three, a, a, b, false);
            }
        }
        dueCircle("all different", three, 0, 1, 2, true);
        dueCircle("one alone, three times", of(5, 5), 0, 0, 0, false);
        dueCircle("two points, one twice", of(5, 5, 6, 6), 0, 1, 1, false);
    }

    private static void circleOfNoPoint() {
        DelaunayMst three = of(0, 0, 10, 0, 0, 10);
        for (int bad : NO_IDS) {
            dueCircle("a wrong id", three, 0, 1, bad, false);
            dueCircle("two wrong ids", three, 2, bad, bad == 24 ? 25 : 24, false);
            dueCircle("a wrong id twice", three, 2, bad, bad, false);
            due("a wrong id three times", three.emptyCircle(bad, bad, bad), false);
        }
        for (int id : HOLES) {
            dueCircle("a hole", withHoles(), 1, 2, id, false);
        }
        dueCircle("two points alone", of(0, 0, 10, 0), 0, 1, 2, false);
        dueCircle("one has gone", without(2, of(0, 0, 10, 0, 0, 10)), 0, 1, 2, false);
        for (Supplier<DelaunayMst> made : emptySets()) {
            dueCircle("no point", made.get(), 0, 1, 2, false);
        }
    }

    private static void circleOfLine() {
        dueCircle("level", of(0, 5, 127, 5, 1, 5), 0, 1, 2, false);
        dueCircle("upright", of(5, 0, 5, 127, 5, 126), 0, 1, 2, false);
        dueCircle("diagonal", of(0, 0, 127, 127, 126, 126), 0, 1, 2, false);
        dueCircle("other diagonal", of(0, 127, 127, 0, 1, 126), 0, 1, 2, false);
        dueCircle("slanted", of(1, 2, 4, 4, 127, 86), 0, 1, 2, false);
        dueCircle("with a point beside it", of(0, 5, 127, 5, 1, 5, 60, 60), 0, 1, 2, false);
        dueCircle("nearly on a line", of(0, 5, 127, 5, 1, 6), 0, 1, 2, true);
    }

    private static void circleInside() {
        dueCircle("centre", of(69, 64, 64, 69, 59, 64, 64, 64), 0, 1, 2, false);
        dueCircle("one step in", of(69, 64, 64, 69, 59, 64, 64, 60), 0, 1, 2, false);
        dueCircle("one step in, off the middle", of(69, 64, 64, 69, 59, 64, 67, 61), 0, 1, 2, false);
        dueCircle("on a side of the triangle", of(69, 64, 64, 69, 59, 64, 66, 67), 0, 1, 2, false);
        dueCircle("smaller id", of(64, 60, 69, 64, 64, 69, 59, 64), 1, 2, 3, false);
        DelaunayMst last = only(23, 64, 60);
        due("add", last.add(69, 64), 0);
        due("add", last.add(64, 69), 1);
        due("add", last.add(59, 64), 2);
        dueCircle("largest id", last, 0, 1, 2, false);
    }

    private static void circleOn() {
        dueCircle("opposite", of(69, 64, 64, 69, 59, 64, 64, 59), 0, 1, 2, false);
        dueCircle("off the middle", of(69, 64, 64, 69, 59, 64, 67, 60), 0, 1, 2, false);
        dueCircle("between two of them", of(69, 64, 64, 69, 59, 64, 67, 68), 0, 1, 2, false);
        dueCircle("the field's corners", of(0, 0, 127, 0, 127, 127, 0, 127), 1, 2, 3, false);
        DelaunayMst round = circle();
        for (int a = 0; a < 12; a++) {
            for (int b = a + 1; b < 12; b++) {
                for (int c = b + 1; c < 12; c++) {
                    due("emptyCircle(" + a + ", " + b + ", " + c + ")", round.emptyCircle(a, b, c), false);
                }
            }
        }
    }

    private static void circleOutside() {
        dueCircle("three points alone", of(0, 0, 127, 0, 127, 127), 0, 1, 2, true);
        dueCircle("one step out", of(69, 64, 64, 69, 59, 64, 64, 58), 0, 1, 2, true);
        dueCircle("one step out, off the middle", of(69, 64, 64, 69, 59, 64, 67, 59), 0, 1, 2, true);
        dueCircle("without what was inside", without(3, of(69, 64, 64, 69, 59, 64, 64, 64)), 0, 1, 2, true);
        DelaunayMst round = circleWithCentre();
        for (int id = 0; id < 12; id++) {
            dueCircle("centre and two of the circle", round, 12, id, (id + 1) % 12, true);
        }
    }

    // ---- Promises 18 and 19: onHull, hullArea2

    private static void promises18And19() {
        test("Promise 18: it has an id", BoundaryTest::hullNoPoint);
        test("Promise 18: and the set has at most two points", BoundaryTest::hullOfFew);
        test("Promise 18: the boundary, with points between two corners", BoundaryTest::hullBetweenCorners);
        test("Promise 18: all turn(point, b, c) >= 0 or all <= 0, all on one line", BoundaryTest::hullOfLine);
        test("Promise 18: the boundary and nothing inside it", BoundaryTest::hullInside);
        test("Promise 19: 0 if all points lie on one line", BoundaryTest::areaOfLine);
        test("Promise 19: 0 with no, one and two points", BoundaryTest::areaOfFew);
        test("Promise 19: Twice the area, the least and the greatest", BoundaryTest::areaEnds);
        test("Promise 19: Twice the area, with points between two corners", BoundaryTest::areaBetweenCorners);
    }

    /** These ids are on the hull and no others are. */
    private static void dueHull(String what, DelaunayMst set, int... ids) {
        for (int id : ASKED) {
            boolean want = false;
            for (int on : ids) {
                want = want || on == id;
            }
            due(what + ", onHull(" + id + ")", set.onHull(id), want);
        }
    }

    private static void hullNoPoint() {
        for (Supplier<DelaunayMst> made : allKinds()) {
            for (int id : NO_IDS) {
                due("onHull(" + id + ")", made.get().onHull(id), false);
            }
        }
        for (Supplier<DelaunayMst> made : emptySets()) {
            dueHull("no point", made.get());
        }
        for (int id : HOLES) {
            due("onHull(" + id + ") of a hole", withHoles().onHull(id), false);
        }
        dueHull("two points, and no third", of(5, 5, 6, 6), 0, 1);
    }

    private static void hullOfFew() {
        for (int id = 0; id < 24; id++) {
            dueHull("point " + id + " alone", only(id, 64, 64), id);
        }
        dueHull("two points", of(0, 0, 127, 127), 0, 1);
        DelaunayMst two = only(23, 3, 3);
        due("add", two.add(4, 3), 0);
        dueHull("points 0 and 23", two, 0, 23);
        DelaunayMst left = of(0, 0, 10, 0, 5, 9, 5, 3);
        dueHull("four points, one inside", left, 0, 1, 2);
        left.remove(0);
        dueHull("three points, the one no longer inside", left, 1, 2, 3);
        left.remove(1);
        dueHull("two points left", left, 2, 3);
        left.remove(2);
        dueHull("one point left", left, 3);
    }

    private static void hullBetweenCorners() {
        // Corners 0 to 3 first, then points on the sides, then points one step inside them.
        dueHull("upright square", of(0, 0, 127, 0, 127, 127, 0, 127, 1, 0, 64, 0, 127, 126, 64, 127, 0, 64, 64, 1, 126, 64, 64, 126, 1, 64),
            0, 1, 2, 3, 4, 5, 6, 7, 8);
        dueHull("square on its corner", of(10, 0, 20, 10, 10, 20, 0, 10, 15, 5, 19, 11, 1, 9, 4, 14, 15, 6, 10, 1, 5, 14),
            0, 1, 2, 3, 4, 5, 6, 7);
        dueHull("triangle, the point between two corners first", of(6, 3, 0, 0, 12, 6, 0, 20), 0, 1, 2, 3);
        dueHull("triangle, one step inside its side", of(6, 4, 0, 0, 12, 6, 0, 20), 1, 2, 3);
        dueHull("a corner gone", without(1, of(0, 0, 20, 0, 20, 20, 0, 20, 10, 0, 20, 10, 10, 10)), 0, 2, 3, 4, 5);
    }

    private static void hullOfLine() {
        dueHull("three, the middle one last", of(0, 0, 20, 10, 10, 5), 0, 1, 2);
        dueHull("three, the middle one first", of(10, 5, 0, 0, 20, 10), 0, 1, 2);
        dueHull("upright", of(7, 3, 7, 1, 7, 127, 7, 0), 0, 1, 2, 3);
        DelaunayMst all = row(24);
        for (int id = 0; id < 24; id++) {
            due("onHull(" + id + ") of 24 in a row", all.onHull(id), true);
        }
        due("remove(12)", all.remove(12), 23);
        due("add beside the line", all.add(60, 11), 12);
        for (int id = 0; id < 24; id++) {
            due("onHull(" + id + ") with one beside the line", all.onHull(id), true);
        }
        due("remove(5)", all.remove(5), 23);
        due("add on the other side", all.add(25, 9), 5);
        for (int id = 0; id < 24; id++) {
            boolean want = id == 0 || id == 23 || id == 12 || id == 5;
            due("onHull(" + id + ") with one on each side", all.onHull(id), want);
        }
    }

    private static void hullInside() {
        // From (0, 0) to (127, 126) the turn of (1, 1) is 1, of (126, 125) -1: the least there are.
        dueHull("least turn inside", of(0, 0, 127, 126, 0, 127, 1, 1), 0, 1, 2);
        dueHull("least turn outside", of(0, 0, 127, 126, 0, 127, 126, 125), 0, 1, 2, 3);
        dueHull("circle with its centre", circleWithCentre(), 0, 1, 2, 3, 4, 5, 6, 7, 8, 9, 10, 11);
        DelaunayMst last = only(23, 64, 64);
        due("add", last.add(0, 0), 0);
        due("add", last.add(127, 0), 1);
        due("add", last.add(64, 127), 2);
        dueHull("largest id inside", last, 0, 1, 2);
        dueHull("smallest id inside", of(64, 64, 0, 0, 127, 0, 64, 127), 1, 2, 3);
    }

    private static void areaOfLine() {
        due("three, level", of(0, 5, 127, 5, 64, 5).hullArea2(), 0);
        due("three, upright", of(5, 127, 5, 0, 5, 64).hullArea2(), 0);
        due("three, diagonal", of(64, 64, 127, 127, 0, 0).hullArea2(), 0);
        due("three, other diagonal", of(64, 63, 127, 0, 0, 127).hullArea2(), 0);
        due("four, slanted", of(30, 20, 10, 10, 50, 30, 20, 15).hullArea2(), 0);
        DelaunayMst all = row(24);
        due("24 in a row", all.hullArea2(), 0);
        all.remove(23);
        due("add beside the line", all.add(64, 11), 23);
        due("23 in a row and one beside", all.hullArea2(), 110);
        all.remove(23);
        due("23 in a row", all.hullArea2(), 0);
    }

    private static void areaOfFew() {
        for (Supplier<DelaunayMst> made : emptySets()) {
            due("no point", made.get().hullArea2(), 0);
        }
        for (int id = 0; id < 24; id++) {
            due("point " + id + " alone", only(id, 127, 126).hullArea2(), 0);
        }
        due("two points", of(0, 127, 127, 0).hullArea2(), 0);
        due("two points", of(3, 100, 9, 127).hullArea2(), 0);
        due("two of three left", without(1, of(0, 127, 127, 0, 127, 127)).hullArea2(), 0);
    }

    private static void areaEnds() {
        due("the least", of(126, 127, 127, 127, 127, 126).hullArea2(), 1);
        due("the least, turned", of(127, 126, 127, 127, 126, 127).hullArea2(), 1);
        due("the least, long", of(0, 0, 127, 126, 126, 125).hullArea2(), 1);
        due("the greatest", of(0, 0, 127, 127, 127, 0, 0, 127).hullArea2(), 2 * 127 * 127);
        due("the greatest triangle", of(0, 0, 127, 64, 0, 127).hullArea2(), 127 * 127);
    }

    private static void areaBetweenCorners() {
        DelaunayMst set = of(0, 0, 127, 0, 127, 127, 0, 127, 1, 0, 64, 0, 127, 126, 64, 127, 0, 64, 64, 1, 126, 64);
        due("the whole field", set.hullArea2(), 2 * 127 * 127);
        DelaunayMst slanted = of(10, 0, 20, 10, 10, 20, 0, 10, 15, 5, 19, 11, 1, 9, 4, 14, 10, 10);
        due("square on its corner", slanted.hullArea2(), 400);
        slanted.remove(0);
        due("without a corner", slanted.hullArea2(), 310);
    }

    // ---- Promise 20, and rule 7 of LANGUAGE.md

    private static void promise20AndRule7() {
        test("Promise 20: hop: no point a or no point b is tested before a == b", BoundaryTest::hopOrder);
        test("Rule 7: No call may ever throw, for any arguments in any state", BoundaryTest::anyArguments);
        test("Rule 7: No call may ever throw, after the 512th call too", BoundaryTest::beyondCall512);
    }

    private static void hopOrder() {
        for (Supplier<DelaunayMst> made : allKinds()) {
            for (int id : NO_IDS) {
                due("hop(" + id + ", " + id + ")", made.get().hop(id, id), NO_POINT);
            }
        }
        for (int id : HOLES) {
            due("hop(" + id + ", " + id + ") of a hole", withHoles().hop(id, id), NO_POINT);
        }
        for (Supplier<DelaunayMst> made : emptySets()) {
            for (int id = 0; id < 24; id++) {
                due("hop(" + id + ", " + id + ") with no point", made.get().hop(id, id), NO_POINT);
            }
        }
        due("hop(5, 5) beyond the last", scattered(5).hop(5, 5), NO_POINT);
        due("hop(4, 4)", scattered(5).hop(4, 4), 0);
    }

    private static void dueFrom(String call, int got, int least, int most) {
        if (got < least || got > most) {
            tell(call + " answered " + got + ", due is " + least + " to " + most);
        }
    }

    private static void anyArguments() {
        for (Supplier<DelaunayMst> made : allKinds()) {
            for (int a : ANY_INTS) {
                oneArgument(made, a);
                for (int b : ANY_INTS) {
                    twoArguments(made, a, b);
                    DelaunayMst set = made.get();
                    for (int c : ANY_INTS) {
                        boolean someWrong = set.xOf(a) < 0 || set.xOf(b) < 0 || set.xOf(c) < 0;
                        boolean answer = set.emptyCircle(a, b, c);
                        due("emptyCircle(" + a + ", " + b + ", " + c + ") of no points", answer && someWrong, false);
                    }
                }
            }
        }
    }

    private static void oneArgument(Supplier<DelaunayMst> made, int a) {
        dueFrom("remove(" + a + ")", made.get().remove(a), NO_POINT, 23);
        DelaunayMst set = made.get();
        dueFrom("xOf(" + a + ")", set.xOf(a), NO_POINT, 127);
        dueFrom("yOf(" + a + ")", set.yOf(a), NO_POINT, 127);
        dueFrom("treeEdge(" + a + ")", set.treeEdge(a), NO_POINT, GREATEST_DISTANCE);
        dueFrom("groups(" + a + ")", set.groups(a), 0, 24);
        dueFrom("neighbour(" + a + ")", set.neighbour(a), NO_POINT, 23);
        due("onHull(" + a + ") of no point", set.onHull(a) && set.xOf(a) < 0, false);
        dueFrom("treeTotal()", set.treeTotal(), 0, 23 * GREATEST_DISTANCE);
        dueFrom("hullArea2()", set.hullArea2(), 0, 2 * 127 * 127);
    }

    private static void twoArguments(Supplier<DelaunayMst> made, int a, int b) {
        String both = "(" + a + ", " + b + ")";
        dueFrom("add" + both, made.get().add(a, b), FULL, 23);
        DelaunayMst set = made.get();
        boolean someWrong = set.xOf(a) < 0 || set.xOf(b) < 0;
        dueFrom("hop" + both, set.hop(a, b), NO_POINT, GREATEST_DISTANCE);
        dueFrom("groupOf" + both, set.groupOf(a, b), NO_POINT, 23);
        dueFrom("nearest" + both, set.nearest(a, b), NO_POINT, 23);
        due("linked" + both + " of no points", set.linked(a, b) && someWrong, false);
        due("close" + both + " of no points", set.close(a, b) && someWrong, false);
    }

    private static void askAll(DelaunayMst set) {
        questions().forEach((name, question) -> question.apply(set));
    }

    private static void beyondCall512() {
        DelaunayMst set = new DelaunayMst();
        for (int round = 0; round < 100; round++) {
            for (int i = 0; i < 30; i++) {
                set.add(fullX(i), fullY(i) + round % 3);
            }
            askAll(set);
            for (int id : ANY_INTS) {
                set.remove(id + round % 5);
            }
            askAll(set);
            if (round % 7 == 0) {
                set.clear();
                askAll(set);
            }
        }
    }
}
