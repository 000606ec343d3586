/** A closed surface of triangles that is cut finer, turned and drawn together. */
public final class SurfaceMesh {
    public static final int BAD = -1;
    public static final int FULL = -2;
    public static final int REFUSED = -3;

    private static final int MOST_VERTICES = 10;
    private static final int FEWEST_VERTICES = 4;
    private static final int ARROWS = 100;
    private static final int MOST_STEPS = 20;

    // An arrow is had by one face at most, so the third corner kept for each arrow tells every face:
    // at a * MOST_VERTICES + b stands the vertex opposite the arrow a to b, or BAD if no face has it.
    private final int[] corners = new int[ARROWS];

    // Bit v for vertex v.
    private int present;

    public SurfaceMesh() {
        for (int i = 0; i < ARROWS; i++) {
            corners[i] = BAD;
        }
        present = 15;
        putFace(0, 1, 2);
        putFace(0, 2, 3);
        putFace(0, 3, 1);
        putFace(1, 3, 2);
    }

    public int splitFace(int a, int b, int c) {
        if (!hasFace(a, b, c)) {
            return BAD;
        }
        int v = leastFree();
        if (v == FULL) {
            return FULL;
        }
        present |= 1 << v;
        putFace(a, b, v);
        putFace(b, c, v);
        putFace(c, a, v);
        return v;
    }

    public int splitEdge(int a, int b) {
        if (!areJoined(a, b)) {
            return BAD;
        }
        int v = leastFree();
        if (v == FULL) {
            return FULL;
        }
        int c = corner(a, b);
        int d = corner(b, a);
        present |= 1 << v;
        dropFace(a, b, c);
        dropFace(b, a, d);
        putFace(a, v, c);
        putFace(v, b, c);
        putFace(b, v, d);
        putFace(v, a, d);
        return v;
    }

    public int flip(int a, int b) {
        if (!areJoined(a, b)) {
            return BAD;
        }
        if (!canFlip(a, b)) {
            return REFUSED;
        }
        int c = corner(a, b);
        int d = corner(b, a);
        dropFace(a, b, c);
        dropFace(b, a, d);
        putFace(c, a, d);
        putFace(d, b, c);
        return 0;
    }

    public int collapse(int a, int b) {
        if (!areJoined(a, b)) {
            return BAD;
        }
        if (!canCollapse(a, b)) {
            return REFUSED;
        }
        int c = corner(a, b);
        int d = corner(b, a);
        dropFace(a, b, c);
        dropFace(b, a, d);
        handOver(b, a);
        present &= ~(1 << b);
        return countBits(present);
    }

    public int vertices() {
        return present;
    }

    public int faces() {
        int arrows = 0;
        for (int i = 0; i < ARROWS; i++) {
            if (corners[i] != BAD) {
                arrows++;
            }
        }
        return arrows / 3;
    }

    public boolean isFace(int a, int b, int c) {
        return hasFace(a, b, c);
    }

    public int joined(int a) {
        return neighbours(a);
    }

    public int opposite(int a, int b) {
        return corner(a, b);
    }

    public int around(int a, int b, int k) {
        if (!areJoined(a, b) || k < -MOST_STEPS || k > MOST_STEPS) {
            return BAD;
        }
        int at = b;
        for (int i = 0; i < k; i++) {
            at = corner(a, at);
        }
        // In the face (a, u, at) the vertex u comes before at, and it is opposite the arrow at to a.
        for (int i = 0; i > k; i--) {
            at = corner(at, a);
        }
        return at;
    }

    public int distance(int a, int b) {
        if (!isVertex(a) || !isVertex(b)) {
            return BAD;
        }
        int reached = 1 << a;
        for (int steps = 0; steps < MOST_VERTICES; steps++) {
            if (holds(reached, b)) {
                return steps;
            }
            reached = widened(reached);
        }
        return BAD;
    }

    public int ofDegree(int n) {
        int count = 0;
        for (int v = 0; v < MOST_VERTICES; v++) {
            int others = neighbours(v);
            if (isVertex(v) && countBits(others) == n) {
                count++;
            }
        }
        return count;
    }

    public int flippable() {
        int count = 0;
        for (int a = 0; a < MOST_VERTICES; a++) {
            for (int b = a + 1; b < MOST_VERTICES; b++) {
                if (areJoined(a, b) && canFlip(a, b)) {
                    count++;
                }
            }
        }
        return count;
    }

    public int collapsible() {
        int count = 0;
        for (int a = 0; a < MOST_VERTICES; a++) {
            for (int b = 0; b < MOST_VERTICES; b++) {
                if (areJoined(a, b) && canCollapse(a, b)) {
                    count++;
                }
            }
        }
        return count;
    }

    private static boolean isNumber(int v) {
        return v >= 0 && v < MOST_VERTICES;
    }

    private static boolean holds(int set, int v) {
        return (set >> v & 1) == 1;
    }

    private static int countBits(int set) {
        int count = 0;
        for (int v = 0; v < MOST_VERTICES; v++) {
            if (holds(set, v)) {
                count++;
            }
        }
        return count;
    }

    private boolean isVertex(int v) {
        return isNumber(v) && holds(present, v);
    }

    private int leastFree() {
        for (int v = 0; v < MOST_VERTICES; v++) {
            if (!holds(present, v)) {
                return v;
            }
        }
        return FULL;
    }

    private int corner(int a, int b) {
        if (!isNumber(a) || !isNumber(b)) {
            return BAD;
        }
        return corners[a * MOST_VERTICES + b];
    }

    private void setCorner(int a, int b, int c) {
        if (isNumber(a) && isNumber(b)) {
            corners[a * MOST_VERTICES + b] = c;
        }
    }

    // With every arrow the one back is had too, so one direction tells enough.
    private boolean areJoined(int a, int b) {
        return corner(a, b) != BAD;
    }

    // A missing arrow has the corner BAD, so a c that is no number must not be compared with it.
    private boolean hasFace(int a, int b, int c) {
        return isNumber(c) && corner(a, b) == c;
    }

    private void putFace(int a, int b, int c) {
        setCorner(a, b, c);
        setCorner(b, c, a);
        setCorner(c, a, b);
    }

    private void dropFace(int a, int b, int c) {
        setCorner(a, b, BAD);
        setCorner(b, c, BAD);
        setCorner(c, a, BAD);
    }

    private int neighbours(int a) {
        int set = 0;
        for (int v = 0; v < MOST_VERTICES; v++) {
            if (corner(a, v) != BAD) {
                set |= 1 << v;
            }
        }
        return set;
    }

    private int widened(int set) {
        int wide = set;
        for (int v = 0; v < MOST_VERTICES; v++) {
            if (holds(set, v)) {
                wide |= neighbours(v);
            }
        }
        return wide;
    }

    // Asked of joined vertices only.
    private boolean canFlip(int a, int b) {
        int c = corner(a, b);
        int d = corner(b, a);
        return c != d && !areJoined(c, d);
    }

    // Asked of joined vertices only.
    private boolean canCollapse(int a, int b) {
        int common = neighbours(a) & neighbours(b);
        return countBits(present) > FEWEST_VERTICES && countBits(common) <= 2;
    }

    private void handOver(int from, int to) {
        for (int v = 0; v < MOST_VERTICES; v++) {
            int next = corner(from, v);
            if (next != BAD) {
                dropFace(from, v, next);
                putFace(to, v, next);
            }
        }
    }
}
