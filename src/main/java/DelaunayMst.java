/** At most 24 different points on a 128 by 128 grid, with questions about how they lie. */
public final class DelaunayMst {
    public static final int BAD_POINT = -1;
    public static final int DUPLICATE = -2;
    public static final int FULL = -3;
    public static final int NO_POINT = -4;

    private static final int CAPACITY = 24;
    private static final int GREATEST_COORDINATE = 127;

    private final boolean[] used = new boolean[CAPACITY];
    private final int[] xs = new int[CAPACITY];
    private final int[] ys = new int[CAPACITY];
    private int count;

    // growTree fills these anew at every use, so no question leaves a trace in the next one.
    private final boolean[] waiting = new boolean[CAPACITY];
    private final int[] gap = new int[CAPACITY];
    private final int[] order = new int[CAPACITY];
    private final int[] edge = new int[CAPACITY];

    public DelaunayMst() {
        count = 0;
    }

    public int add(int x, int y) {
        if (!inRange(x) || !inRange(y)) {
            return BAD_POINT;
        }
        if (holds(x, y)) {
            return DUPLICATE;
        }
        for (int id = 0; id < CAPACITY; id++) {
            if (!used[id]) {
                used[id] = true;
                xs[id] = x;
                ys[id] = y;
                count++;
                return id;
            }
        }
        return FULL;
    }

    public int remove(int id) {
        if (!has(id)) {
            return NO_POINT;
        }
        used[id] = false;
        count--;
        return count;
    }

    public void clear() {
        for (int id = 0; id < CAPACITY; id++) {
            used[id] = false;
        }
        count = 0;
    }

    public int size() {
        return count;
    }

    public int xOf(int id) {
        return has(id) ? xs[id] : NO_POINT;
    }

    public int yOf(int id) {
        return has(id) ? ys[id] : NO_POINT;
    }

    public int treeTotal() {
        growTreeAnywhere();
        int total = 0;
        for (int k = 1; k < count; k++) {
            total += edge[k];
        }
        return total;
    }

    public int treeEdge(int k) {
        if (k < 0 || k > count - 2) {
            return NO_POINT;
        }
        growTreeAnywhere();
        sortEdges();
        return edge[k + 1];
    }

    public int hop(int a, int b) {
        if (!has(a) || !has(b)) {
            return NO_POINT;
        }
        // The tree leaves the points it has by the shortest way out, so no way from a to b
        // can do without a hop as long as the longest one taken before b is reached.
        growTree(a);
        int longest = 0;
        for (int k = 1; k < count && order[k - 1] != b; k++) {
            if (edge[k] > longest) {
                longest = edge[k];
            }
        }
        return longest;
    }

    public int groups(int limit) {
        if (count == 0) {
            return 0;
        }
        // Cutting a shortest tree at every edge beyond the limit leaves just the groups.
        growTreeAnywhere();
        int parts = 1;
        for (int k = 1; k < count; k++) {
            if (edge[k] > limit) {
                parts++;
            }
        }
        return parts;
    }

    public int groupOf(int id, int limit) {
        if (!has(id)) {
            return NO_POINT;
        }
        // The first edge beyond the limit was the shortest way out: the group is complete there.
        growTree(id);
        int smallest = id;
        for (int k = 1; k < count && edge[k] <= limit; k++) {
            if (order[k] < smallest) {
                smallest = order[k];
            }
        }
        return smallest;
    }

    public int nearest(int x, int y) {
        if (!inRange(x) || !inRange(y)) {
            return BAD_POINT;
        }
        return closestTo(x, y, NO_POINT);
    }

    public int neighbour(int id) {
        if (!has(id)) {
            return NO_POINT;
        }
        return closestTo(xs[id], ys[id], id);
    }

    public boolean linked(int a, int b) {
        if (a == b || !has(a) || !has(b)) {
            return false;
        }
        for (int c = 0; c < CAPACITY; c++) {
            if (isOther(c, a, b) && (between(a, b, c) || meetsFarSide(a, b, c))) {
                return false;
            }
        }
        return true;
    }

    public boolean close(int a, int b) {
        if (a == b || !has(a) || !has(b)) {
            return false;
        }
        int diameter = distance(a, b);
        for (int c = 0; c < CAPACITY; c++) {
            if (isOther(c, a, b) && distance(a, c) + distance(b, c) <= diameter) {
                return false;
            }
        }
        return true;
    }

    public boolean emptyCircle(int a, int b, int c) {
        if (a == b || a == c || b == c) {
            return false;
        }
        if (!has(a) || !has(b) || !has(c) || turn(a, b, c) == 0) {
            return false;
        }
        for (int d = 0; d < CAPACITY; d++) {
            if (isOther(d, a, b) && d != c && !outsideCircle(a, b, c, d)) {
                return false;
            }
        }
        return true;
    }

    public boolean onHull(int id) {
        if (!has(id)) {
            return false;
        }
        if (count <= 2) {
            return true;
        }
        for (int b = 0; b < CAPACITY; b++) {
            if (used[b] && b != id && allOnOneSide(id, b)) {
                return true;
            }
        }
        return false;
    }

    public int hullArea2() {
        // On a line the two ends make an edge in each direction, and these cancel out to 0.
        int area2 = 0;
        for (int a = 0; a < CAPACITY; a++) {
            for (int b = 0; b < CAPACITY; b++) {
                if (a != b && used[a] && used[b] && isHullSide(a, b)) {
                    area2 += xs[a] * ys[b] - xs[b] * ys[a];
                }
            }
        }
        return area2;
    }

    private boolean inRange(int coordinate) {
        return coordinate >= 0 && coordinate <= GREATEST_COORDINATE;
    }

    private boolean has(int id) {
        return id >= 0 && id < CAPACITY && used[id];
    }

    private boolean isOther(int id, int a, int b) {
        return used[id] && id != a && id != b;
    }

    private boolean holds(int x, int y) {
        for (int id = 0; id < CAPACITY; id++) {
            if (used[id] && xs[id] == x && ys[id] == y) {
                return true;
            }
        }
        return false;
    }

    private int distance(int a, int b) {
        int dx = xs[a] - xs[b];
        int dy = ys[a] - ys[b];
        return dx * dx + dy * dy;
    }

    private int closestTo(int x, int y, int except) {
        int best = NO_POINT;
        int bestDistance = 0;
        for (int id = 0; id < CAPACITY; id++) {
            if (used[id] && id != except) {
                int dx = x - xs[id];
                int dy = y - ys[id];
                int here = dx * dx + dy * dy;
                if (best == NO_POINT || here < bestDistance) {
                    best = id;
                    bestDistance = here;
                }
            }
        }
        return best;
    }

    private void growTreeAnywhere() {
        int start = 0;
        while (start < CAPACITY - 1 && !used[start]) {
            start++;
        }
        growTree(start);
    }

    /**
     * Prim's tree from a point on: order[k] is the id taken as number k, edge[k] the squared
     * length that joined it to the ones before. The start is number 0 with edge 0.
     */
    private void growTree(int start) {
        for (int id = 0; id < CAPACITY; id++) {
            waiting[id] = used[id];
            gap[id] = distance(start, id);
        }
        // No two points are alike, so the start alone has gap 0 and is taken first.
        for (int k = 0; k < count; k++) {
            int next = nextWaiting(start);
            order[k] = next;
            edge[k] = gap[next];
            waiting[next] = false;
            narrowGaps(next);
        }
    }

    private int nextWaiting(int start) {
        int best = start;
        for (int id = 0; id < CAPACITY; id++) {
            if (waiting[id] && (!waiting[best] || gap[id] < gap[best])) {
                best = id;
            }
        }
        return best;
    }

    private void narrowGaps(int taken) {
        for (int id = 0; id < CAPACITY; id++) {
            int here = distance(taken, id);
            if (here < gap[id]) {
                gap[id] = here;
            }
        }
    }

    private void sortEdges() {
        // edge[0] is 0 and below every true edge, so it may be sorted along and stays in front.
        for (int k = 1; k < count; k++) {
            int moving = edge[k];
            int place = k;
            while (place > 0 && edge[place - 1] > moving) {
                edge[place] = edge[place - 1];
                place--;
            }
            edge[place] = moving;
        }
    }

    private int turn(int a, int b, int c) {
        return (xs[b] - xs[a]) * (ys[c] - ys[a]) - (ys[b] - ys[a]) * (xs[c] - xs[a]);
    }

    private boolean between(int a, int b, int c) {
        int dot = (xs[a] - xs[c]) * (xs[b] - xs[c]) + (ys[a] - ys[c]) * (ys[b] - ys[c]);
        return dot < 0 && turn(a, b, c) == 0;
    }

    private boolean outsideCircle(int a, int b, int c, int d) {
        // long, as the determinant times the turn is far beyond an int
        long px = xs[a] - xs[d];
        long py = ys[a] - ys[d];
        long qx = xs[b] - xs[d];
        long qy = ys[b] - ys[d];
        long rx = xs[c] - xs[d];
        long ry = ys[c] - ys[d];
        long determinant = (px * px + py * py) * (qx * ry - qy * rx)
            - (qx * qx + qy * qy) * (px * ry - py * rx)
            + (rx * rx + ry * ry) * (px * qy - py * qx);
        return determinant * turn(a, b, c) < 0;
    }

    /** Whether the circle through a, b, c has a point in or on it beyond the line from a to b. */
    private boolean meetsFarSide(int a, int b, int c) {
        int side = turn(a, b, c);
        for (int d = 0; d < CAPACITY; d++) {
            int farSide = turn(a, b, d);
            boolean opposite = side > 0 && farSide < 0 || side < 0 && farSide > 0;
            if (used[d] && opposite && !outsideCircle(a, b, c, d)) {
                return true;
            }
        }
        return false;
    }

    private boolean allOnOneSide(int a, int b) {
        boolean someLeft = false;
        boolean someRight = false;
        for (int c = 0; c < CAPACITY; c++) {
            if (used[c]) {
                int side = turn(a, b, c);
                someLeft = someLeft || side > 0;
                someRight = someRight || side < 0;
            }
        }
        return !someLeft || !someRight;
    }

    /** Whether a to b is a whole side of the hull, walked with the hull to its left. */
    private boolean isHullSide(int a, int b) {
        for (int c = 0; c < CAPACITY; c++) {
            if (isOther(c, a, b) && turn(a, b, c) <= 0 && !between(a, b, c)) {
                return false;
            }
        }
        return true;
    }
}
