import java.util.ArrayDeque;
import java.util.ArrayList;
import java.util.Comparator;
import java.util.List;
import java.util.TreeMap;

/**
 * Long runs of calls, made by a fixed formula, against a second answer to every question that is
 * worked out another way than in the class: Kruskal and breadth first search instead of Prim,
 * centres of circles as fractions instead of the determinant, a chain of corners for the hull.
 */
public final class OracleTest {
    private static final int RUNS = 1500;
    // The document leaves free what an object answers after its 512th call.
    private static final int CALLS = 512;
    private static final int NO_POINT = -4;

    private static final class Point {
        final int x;
        final int y;

        Point(int x, int y) {
            this.x = x;
            this.y = y;
        }

        long cross(Point b, Point c) {
            return (long) (b.x - x) * (c.y - y) - (long) (b.y - y) * (c.x - x);
        }

        int squaredTo(Point p) {
            return (x - p.x) * (x - p.x) + (y - p.y) * (y - p.y);
        }
    }

    private static long seed = 20261115L;
    private static int wrong = 0;
    private static final int[] yes = new int[4];

    private static int upTo(int bound) {
        seed = seed * 6364136223846793005L + 1442695040888963407L;
        return (int) ((seed >>> 33) % bound);
    }

    public static void main(String[] args) {
        for (int run = 0; run < RUNS && wrong < 20; run++) {
            oneRun(run);
        }
        for (int i = 0; i < yes.length; i++) {
            if (yes[i] < 1000) {
                wrong++;
                System.out.println("yes-or-no question " + i + " was due to be true only " + yes[i] + " times");
            }
        }
        System.out.println(wrong == 0 ? "all answers are as due" : wrong + " answers are not as due");
        if (wrong != 0) {
            System.exit(1);
        }
    }

    private static void oneRun(int run) {
        DelaunayMst set = new DelaunayMst();
        TreeMap<Integer, Point> model = new TreeMap<>();
        int shape = run % 5;
        int wanted = 1 + upTo(26);
        for (int call = 0; call < CALLS; call++) {
            boolean grow = model.size() < wanted && upTo(3) > 0;
            int kind = grow ? 0 : upTo(60);
            String text = kind < 4 ? change(set, model, kind, shape) : question(set, model, kind % 15);
            if (text != null) {
                wrong++;
                System.out.println("run " + run + ", call " + call + ": " + text);
                return;
            }
            if (upTo(40) == 0) {
                wanted = 1 + upTo(26);
            }
        }
    }

    private static String told(String call, int got, int want) {
        return got == want ? null : call + " answered " + got + ", due is " + want;
    }

    private static String told(String call, boolean got, boolean want, int question) {
        if (want) {
            yes[question]++;
        }
        return got == want ? null : call + " answered " + got + ", due is " + want;
    }

    private static String change(DelaunayMst set, TreeMap<Integer, Point> model, int kind, int shape) {
        if (kind == 0 || kind == 1) {
            int[] p = place(shape);
            return told("add(" + p[0] + ", " + p[1] + ")", set.add(p[0], p[1]), dueAdd(model, p[0], p[1]));
        }
        if (kind == 2 || upTo(8) > 0) {
            int id = anyId(model);
            int want = model.remove(id) == null ? NO_POINT : model.size();
            return told("remove(" + id + ")", set.remove(id), want);
        }
        set.clear();
        model.clear();
        return null;
    }

    /** Places on the whole field, on a narrow grid, on a slanted line, on a circle, or now and then outside. */
    private static int[] place(int shape) {
        if (upTo(20) == 0) {
            return new int[] {upTo(132) - 2, upTo(132) - 2};
        }
        switch (shape) {
            case 0:
                return new int[] {upTo(128), upTo(128)};
            case 1:
                return new int[] {upTo(6), upTo(6)};
            case 2:
                return new int[] {upTo(4) * 42, upTo(8) * 18};
            case 3:
                int t = upTo(40);
                return new int[] {7 + 3 * t, 5 + 2 * t + (upTo(12) == 0 ? 1 : 0)};
            default:
                int[] legs = {0, 65, 16, 63, 25, 60, 33, 56, 39, 52, 52, 39, 56, 33, 60, 25, 63, 16};
                int i = upTo(legs.length / 2) * 2;
                int x = 63 + (upTo(2) == 0 ? legs[i] : -legs[i]);
                int y = 63 + (upTo(2) == 0 ? legs[i + 1] : -legs[i + 1]);
                return new int[] {x, y};
        }
    }

    private static int anyId(TreeMap<Integer, Point> model) {
        if (model.isEmpty() || upTo(12) == 0) {
            int[] odd = {-1, 24, NO_POINT, Integer.MIN_VALUE, Integer.MAX_VALUE};
            int i = upTo(29);
            return i < 24 ? i : odd[i - 24];
        }
        return new ArrayList<>(model.keySet()).get(upTo(model.size()));
    }

    private static int anyLimit(TreeMap<Integer, Point> model) {
        List<Integer> edges = dueEdges(model);
        int i = upTo(10);
        if (i == 0 || edges.isEmpty()) {
            int[] odd = {Integer.MIN_VALUE, -1, 0, 1, Integer.MAX_VALUE};
            return odd[upTo(5)];
        }
        return edges.get(upTo(edges.size())) + upTo(3) - 1;
    }

    private static String question(DelaunayMst set, TreeMap<Integer, Point> model, int kind) {
        int a = anyId(model);
        int b = anyId(model);
        int c = anyId(model);
        String one = "(" + a + ")";
        String two = "(" + a + ", " + b + ")";
        switch (kind) {
            case 0:
                return told("size()", set.size(), model.size());
            case 1:
                return told("xOf" + one, set.xOf(a), model.containsKey(a) ? model.get(a).x : NO_POINT);
            case 2:
                return told("yOf" + one, set.yOf(a), model.containsKey(a) ? model.get(a).y : NO_POINT);
            case 3:
                return told("treeTotal()", set.treeTotal(), dueTotal(model));
            case 4:
                int k = upTo(28) - 2;
                List<Integer> edges = dueEdges(model);
                return told("treeEdge(" + k + ")", set.treeEdge(k), k >= 0 && k < edges.size() ? edges.get(k) : NO_POINT);
            case 5:
                return told("hop" + two, set.hop(a, b), dueHop(model, a, b));
            case 6:
                int limit = anyLimit(model);
                return told("groups(" + limit + ")", set.groups(limit), dueGroups(model, limit));
            case 7:
                int bound = anyLimit(model);
                return told("groupOf(" + a + ", " + bound + ")", set.groupOf(a, bound), dueGroupOf(model, a, bound));
            case 8:
                int[] p = place(upTo(5));
                return told("nearest(" + p[0] + ", " + p[1] + ")", set.nearest(p[0], p[1]), dueNearest(model, p[0], p[1]));
            case 9:
                return told("neighbour" + one, set.neighbour(a), dueNeighbour(model, a));
            case 10:
                return told("linked" + two, set.linked(a, b), dueLinked(model, a, b), 0);
            case 11:
                return told("close" + two, set.close(a, b), dueClose(model, a, b), 1);
            case 12:
                String three = "(" + a + ", " + b + ", " + c + ")";
                return told("emptyCircle" + three, set.emptyCircle(a, b, c), dueEmptyCircle(model, a, b, c), 2);
            case 13:
                return told("onHull" + one, set.onHull(a), dueOnHull(model, a), 3);
            default:
                return told("hullArea2()", set.hullArea2(), dueArea2(model));
        }
    }

    private static boolean outsideField(int x, int y) {
        return x < 0 || x > 127 || y < 0 || y > 127;
    }

    private static int dueAdd(TreeMap<Integer, Point> model, int x, int y) {
        if (outsideField(x, y)) {
            return -1;
        }
        if (model.values().stream().anyMatch(p -> p.x == x && p.y == y)) {
            return -2;
        }
        if (model.size() == 24) {
            return -3;
        }
        int id = 0;
        while (model.containsKey(id)) {
            id++;
        }
        model.put(id, new Point(x, y));
        return id;
    }

    /** Kruskal: the edges in ascending order, each taken if it joins two parts. */
    private static List<Integer> dueEdges(TreeMap<Integer, Point> model) {
        List<int[]> all = new ArrayList<>();
        int[] part = new int[24];
        for (int a : model.keySet()) {
            part[a] = a;
            for (int b : model.headMap(a).keySet()) {
                all.add(new int[] {model.get(a).squaredTo(model.get(b)), a, b});
            }
        }
        all.sort(Comparator.comparingInt(e -> e[0]));
        List<Integer> taken = new ArrayList<>();
        for (int[] e : all) {
            int from = part[e[1]];
            int to = part[e[2]];
            if (from != to) {
                taken.add(e[0]);
                for (int id : model.keySet()) {
                    part[id] = part[id] == from ? to : part[id];
                }
            }
        }
        return taken;
    }

    private static int dueTotal(TreeMap<Integer, Point> model) {
        int total = 0;
        for (int e : dueEdges(model)) {
            total += e;
        }
        return total;
    }

    /** Every pair's least greatest hop, by letting each point in turn be a stop between. */
    private static int dueHop(TreeMap<Integer, Point> model, int a, int b) {
        if (!model.containsKey(a) || !model.containsKey(b)) {
            return NO_POINT;
        }
        int[][] least = new int[24][24];
        for (int i : model.keySet()) {
            for (int j : model.keySet()) {
                least[i][j] = model.get(i).squaredTo(model.get(j));
            }
        }
        for (int stop : model.keySet()) {
            for (int i : model.keySet()) {
                for (int j : model.keySet()) {
                    least[i][j] = Math.min(least[i][j], Math.max(least[i][stop], least[stop][j]));
                }
            }
        }
        return least[a][b];
    }

    private static int dueGroupOf(TreeMap<Integer, Point> model, int id, int limit) {
        if (!model.containsKey(id)) {
            return NO_POINT;
        }
        boolean[] seen = new boolean[24];
        ArrayDeque<Integer> open = new ArrayDeque<>();
        seen[id] = true;
        open.add(id);
        int smallest = id;
        while (!open.isEmpty()) {
            int here = open.remove();
            smallest = Math.min(smallest, here);
            for (int next : model.keySet()) {
                if (!seen[next] && model.get(here).squaredTo(model.get(next)) <= limit) {
                    seen[next] = true;
                    open.add(next);
                }
            }
        }
        return smallest;
    }

    private static int dueGroups(TreeMap<Integer, Point> model, int limit) {
        int groups = 0;
        for (int id : model.keySet()) {
            if (dueGroupOf(model, id, limit) == id) {
                groups++;
            }
        }
        return groups;
    }

    private static int dueNearest(TreeMap<Integer, Point> model, int x, int y) {
        if (outsideField(x, y)) {
            return -1;
        }
        Point place = new Point(x, y);
        return model.keySet().stream()
            .min(Comparator.<Integer>comparingInt(id -> model.get(id).squaredTo(place)).thenComparing(id -> id))
            .orElse(NO_POINT);
    }

    private static int dueNeighbour(TreeMap<Integer, Point> model, int id) {
        if (!model.containsKey(id)) {
            return NO_POINT;
        }
        TreeMap<Integer, Point> others = new TreeMap<>(model);
        Point p = others.remove(id);
        return dueNearest(others, p.x, p.y);
    }

    /**
     * A circle through a and b has its centre at the middle plus s / 4 times the normal (-uy, ux),
     * u = b - a. With W = 2c - a - b, c is outside if |W| - |u| > s * (W . normal): each point
     * bounds s from above or below, and the question is whether a number is left between.
     */
    private static boolean dueLinked(TreeMap<Integer, Point> model, int a, int b) {
        if (a == b || !model.containsKey(a) || !model.containsKey(b)) {
            return false;
        }
        Point p = model.get(a);
        Point q = model.get(b);
        long ux = q.x - p.x;
        long uy = q.y - p.y;
        List<long[]> above = new ArrayList<>();
        List<long[]> below = new ArrayList<>();
        for (int id : model.keySet()) {
            if (id != a && id != b) {
                long wx = 2L * model.get(id).x - p.x - q.x;
                long wy = 2L * model.get(id).y - p.y - q.y;
                long excess = wx * wx + wy * wy - ux * ux - uy * uy;
                long along = wy * ux - wx * uy;
                if (along == 0 && excess <= 0) {
                    return false;
                }
                if (along > 0) {
                    above.add(new long[] {excess, along});
                }
                if (along < 0) {
                    below.add(new long[] {-excess, -along});
                }
            }
        }
        for (long[] high : above) {
            for (long[] low : below) {
                if (low[0] * high[1] >= high[0] * low[1]) {
                    return false;
                }
            }
        }
        return true;
    }

    private static boolean dueClose(TreeMap<Integer, Point> model, int a, int b) {
        if (a == b || !model.containsKey(a) || !model.containsKey(b)) {
            return false;
        }
        Point p = model.get(a);
        Point q = model.get(b);
        Point twiceMiddle = new Point(p.x + q.x, p.y + q.y);
        for (int id : model.keySet()) {
            Point twice = new Point(2 * model.get(id).x, 2 * model.get(id).y);
            if (id != a && id != b && twice.squaredTo(twiceMiddle) <= p.squaredTo(q)) {
                return false;
            }
        }
        return true;
    }

    /** By the centre of the circle, which is (ux, uy) / den away from a. */
    private static boolean dueEmptyCircle(TreeMap<Integer, Point> model, int a, int b, int c) {
        if (a == b || b == c || a == c) {
            return false;
        }
        if (!model.containsKey(a) || !model.containsKey(b) || !model.containsKey(c)) {
            return false;
        }
        Point p = model.get(a);
        Point q = model.get(b);
        Point r = model.get(c);
        long den = 2 * p.cross(q, r);
        if (den == 0) {
            return false;
        }
        long qq = p.squaredTo(q);
        long rr = p.squaredTo(r);
        long ux = (r.y - p.y) * qq - (q.y - p.y) * rr;
        long uy = (q.x - p.x) * rr - (r.x - p.x) * qq;
        for (int id : model.keySet()) {
            long dx = (model.get(id).x - p.x) * den - ux;
            long dy = (model.get(id).y - p.y) * den - uy;
            if (id != a && id != b && id != c && dx * dx + dy * dy <= ux * ux + uy * uy) {
                return false;
            }
        }
        return true;
    }

    /** The hull's corners, counterclockwise, without points amid a side; for points on a line its two ends. */
    private static List<Point> corners(TreeMap<Integer, Point> model) {
        List<Point> sorted = new ArrayList<>(model.values());
        sorted.sort(Comparator.<Point>comparingInt(p -> p.x).thenComparingInt(p -> p.y));
        List<Point> chain = new ArrayList<>();
        for (int pass = 0; pass < 2; pass++) {
            int start = chain.size();
            for (Point p : sorted) {
                while (chain.size() >= start + 2
                    && chain.get(chain.size() - 2).cross(chain.get(chain.size() - 1), p) <= 0) {
                    chain.remove(chain.size() - 1);
                }
                chain.add(p);
            }
            if (!chain.isEmpty()) {
                chain.remove(chain.size() - 1);
            }
            java.util.Collections.reverse(sorted);
        }
        return chain;
    }

    private static boolean dueOnHull(TreeMap<Integer, Point> model, int id) {
        if (!model.containsKey(id)) {
            return false;
        }
        Point p = model.get(id);
        List<Point> corners = corners(model);
        if (corners.size() <= 2) {
            return true;
        }
        for (int i = 0; i < corners.size(); i++) {
            if (corners.get(i).cross(corners.get((i + 1) % corners.size()), p) == 0) {
                return true;
            }
        }
        return false;
    }

    private static int dueArea2(TreeMap<Integer, Point> model) {
        List<Point> corners = corners(model);
        long area2 = 0;
        for (int i = 2; i < corners.size(); i++) {
            area2 += corners.get(0).cross(corners.get(i - 1), corners.get(i));
        }
        return (int) area2;
    }
}
