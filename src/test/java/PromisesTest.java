/** Each promise by itself: ordinary inputs, the edges that the document names, and wrong inputs. */
public final class PromisesTest {
    private static final int BAD = -1;
    private static final int FULL = -2;
    private static final int REFUSED = -3;
    private static final int[] NO_NUMBERS = {
        -1, -2, -10, 10, 11, 31, 32, 100, Integer.MAX_VALUE, Integer.MIN_VALUE
    };
    private static int wrong = 0;

    public static void main(String[] args) {
        aNewObject();
        splitFace();
        splitFaceRefusals();
        splitEdge();
        splitEdgeRefusals();
        flip();
        flipRefusals();
        collapse();
        collapseRefusals();
        vertices();
        faces();
        isFace();
        joined();
        opposite();
        around();
        distance();
        ofDegree();
        flippable();
        collapsible();
        System.out.println(wrong == 0 ? "all answers are as due" : wrong + " answers are not as due");
        if (wrong != 0) {
            System.exit(1);
        }
    }

    private static void due(String call, long got, long want) {
        if (got != want) {
            wrong++;
            System.out.println(call + " answered " + got + ", due is " + want);
        }
    }

    private static void due(String call, boolean got, boolean want) {
        due(call, got ? 1L : 0L, want ? 1L : 0L);
    }

    private static void same(String what, String got, String want) {
        if (!got.equals(want)) {
            wrong++;
            System.out.println(what + ": the state is " + got + ", due is " + want);
        }
    }

    private static void hasExactly(String what, SurfaceMesh x, int vertices, int[]... faces) {
        StringBuilder due = new StringBuilder();
        for (int a = 0; a < 10; a++) {
            for (int b = 0; b < 10; b++) {
                due.append(third(faces, a, b)).append(' ');
            }
        }
        same(what, state(x), vertices + ": " + due);
    }

    private static int third(int[][] faces, int a, int b) {
        for (int[] f : faces) {
            for (int i = 0; i < 3; i++) {
                if (f[i] == a && f[(i + 1) % 3] == b) {
                    return f[(i + 2) % 3];
                }
            }
        }
        return BAD;
    }

    private static String state(SurfaceMesh x) {
        StringBuilder text = new StringBuilder();
        for (int a = 0; a < 10; a++) {
            for (int b = 0; b < 10; b++) {
                text.append(x.opposite(a, b)).append(' ');
            }
        }
        return x.vertices() + ": " + text;
    }

    private static int[] f(int a, int b, int c) {
        return new int[] {a, b, c};
    }

    /** Two points, 0 and 1, over the triangle 2, 3, 4. */
    private static SurfaceMesh doublePyramid() {
        SurfaceMesh x = new SurfaceMesh();
        due("splitEdge(0, 1)", x.splitEdge(0, 1), 4);
        return x;
    }

    /** Four layers: 3, then 0, 1, 2, then 5, 6, 7, then 4. */
    private static SurfaceMesh layers() {
        SurfaceMesh x = new SurfaceMesh();
        due("splitFace(0, 1, 2)", x.splitFace(0, 1, 2), 4);
        due("splitEdge(4, 0)", x.splitEdge(4, 0), 5);
        due("splitEdge(4, 1)", x.splitEdge(4, 1), 6);
        due("splitEdge(4, 2)", x.splitEdge(4, 2), 7);
        return x;
    }

    private static SurfaceMesh fullOne() {
        SurfaceMesh x = new SurfaceMesh();
        due("splitFace(0, 1, 2)", x.splitFace(0, 1, 2), 4);
        for (int v = 5; v < 10; v++) {
            due("splitFace(0, 1, " + (v - 1) + ")", x.splitFace(0, 1, v - 1), v);
        }
        return x;
    }

    private static void aNewObject() {
        due("BAD", SurfaceMesh.BAD, BAD);
        due("FULL", SurfaceMesh.FULL, FULL);
        due("REFUSED", SurfaceMesh.REFUSED, REFUSED);
        SurfaceMesh x = new SurfaceMesh();
        hasExactly("a new object", x, 15, f(0, 1, 2), f(0, 2, 3), f(0, 3, 1), f(1, 3, 2));
        x.splitFace(0, 1, 2);
        hasExactly("a second object", new SurfaceMesh(), 15, f(0, 1, 2), f(0, 2, 3), f(0, 3, 1), f(1, 3, 2));
    }

    private static void splitFace() {
        for (int turn = 0; turn < 3; turn++) {
            int[] t = {1, 3, 2};
            SurfaceMesh x = new SurfaceMesh();
            due("splitFace, turn " + turn, x.splitFace(t[turn], t[(turn + 1) % 3], t[(turn + 2) % 3]), 4);
            hasExactly("splitFace, turn " + turn, x, 31,
                f(0, 1, 2), f(0, 2, 3), f(0, 3, 1), f(1, 3, 4), f(3, 2, 4), f(2, 1, 4));
        }
        SurfaceMesh x = fullOne();
        due("collapse(0, 9)", x.collapse(0, 9), 9);
        due("collapse(1, 3)", x.collapse(1, 3), 8);
        due("splitFace takes the least number", x.splitFace(0, 1, 8), 3);
        due("splitFace takes the next number", x.splitFace(0, 1, 3), 9);
        due("splitFace, ten again", x.splitFace(0, 1, 9), FULL);
    }

    private static void splitFaceRefusals() {
        SurfaceMesh x = new SurfaceMesh();
        String before = state(x);
        due("splitFace(0, 2, 1)", x.splitFace(0, 2, 1), BAD);
        due("splitFace(0, 0, 0)", x.splitFace(0, 0, 0), BAD);
        due("splitFace(0, 1, 1)", x.splitFace(0, 1, 1), BAD);
        due("splitFace(0, 0, -1)", x.splitFace(0, 0, -1), BAD);
        due("splitFace(0, 4, -1)", x.splitFace(0, 4, -1), BAD);
        due("splitFace(0, 1, 4)", x.splitFace(0, 1, 4), BAD);
        for (int n : NO_NUMBERS) {
            due("splitFace(0, 1, " + n + ")", x.splitFace(0, 1, n), BAD);
            due("splitFace(0, " + n + ", 2)", x.splitFace(0, n, 2), BAD);
            due("splitFace(" + n + ", 1, 2)", x.splitFace(n, 1, 2), BAD);
            due("splitFace(" + n + " thrice)", x.splitFace(n, n, n), BAD);
        }
        same("splitFace answering BAD", state(x), before);

        x = fullOne();
        before = state(x);
        due("splitFace, full", x.splitFace(0, 1, 9), FULL);
        due("splitFace, full and turned", x.splitFace(9, 0, 1), FULL);
        due("splitFace, full and no face", x.splitFace(1, 0, 9), BAD);
        due("splitFace, full and no number", x.splitFace(0, 1, 10), BAD);
        same("splitFace answering FULL", state(x), before);
    }

    private static void splitEdge() {
        SurfaceMesh x = new SurfaceMesh();
        due("splitEdge(0, 1)", x.splitEdge(0, 1), 4);
        hasExactly("splitEdge(0, 1)", x, 31,
            f(0, 4, 2), f(4, 1, 2), f(1, 4, 3), f(4, 0, 3), f(0, 2, 3), f(1, 3, 2));
        x = new SurfaceMesh();
        due("splitEdge(1, 0)", x.splitEdge(1, 0), 4);
        hasExactly("splitEdge(1, 0)", x, 31,
            f(0, 4, 2), f(4, 1, 2), f(1, 4, 3), f(4, 0, 3), f(0, 2, 3), f(1, 3, 2));
        x = fullOne();
        due("collapse(0, 9)", x.collapse(0, 9), 9);
        due("collapse(1, 3)", x.collapse(1, 3), 8);
        due("splitEdge takes the least number", x.splitEdge(0, 1), 3);
        due("splitEdge takes the next number", x.splitEdge(0, 3), 9);
        due("splitEdge, ten again", x.splitEdge(0, 9), FULL);
    }

    private static void splitEdgeRefusals() {
        SurfaceMesh x = doublePyramid();
        String before = state(x);
        due("splitEdge(0, 1), no longer joined", x.splitEdge(0, 1), BAD);
        due("splitEdge(2, 2)", x.splitEdge(2, 2), BAD);
        due("splitEdge(0, 5)", x.splitEdge(0, 5), BAD);
        due("splitEdge(5, 0)", x.splitEdge(5, 0), BAD);
        due("splitEdge(5, 6)", x.splitEdge(5, 6), BAD);
        for (int n : NO_NUMBERS) {
            due("splitEdge(0, " + n + ")", x.splitEdge(0, n), BAD);
            due("splitEdge(" + n + ", 0)", x.splitEdge(n, 0), BAD);
            due("splitEdge(" + n + " twice)", x.splitEdge(n, n), BAD);
        }
        same("splitEdge answering BAD", state(x), before);

        x = fullOne();
        before = state(x);
        due("splitEdge, full", x.splitEdge(0, 1), FULL);
        due("splitEdge, full and not joined", x.splitEdge(3, 9), BAD);
        due("splitEdge, full and no number", x.splitEdge(0, 10), BAD);
        same("splitEdge answering FULL", state(x), before);
    }

    private static void flip() {
        SurfaceMesh x = doublePyramid();
        due("flip(2, 3)", x.flip(2, 3), 0);
        hasExactly("flip(2, 3)", x, 31,
            f(0, 4, 2), f(4, 1, 2), f(1, 4, 3), f(4, 0, 3), f(0, 2, 1), f(1, 3, 0));
        due("flip(2, 3) again", x.flip(2, 3), BAD);
        due("flip(1, 0)", x.flip(1, 0), 0);
        hasExactly("flip(1, 0)", x, 31,
            f(0, 4, 2), f(4, 1, 2), f(1, 4, 3), f(4, 0, 3), f(0, 2, 3), f(1, 3, 2));
        due("flip, full", fullOne().flip(0, 1), 0);
    }

    private static void flipRefusals() {
        SurfaceMesh x = new SurfaceMesh();
        for (int a = 0; a < 4; a++) {
            for (int b = 0; b < 4; b++) {
                due("flip(" + a + ", " + b + ") at the beginning", x.flip(a, b), a == b ? BAD : REFUSED);
            }
        }
        x = doublePyramid();
        String before = state(x);
        due("flip(0, 2)", x.flip(0, 2), REFUSED);
        due("flip(2, 0)", x.flip(2, 0), REFUSED);
        due("flip(0, 1)", x.flip(0, 1), BAD);
        due("flip(5, 0)", x.flip(5, 0), BAD);
        due("flip(5, 6)", x.flip(5, 6), BAD);
        for (int n : NO_NUMBERS) {
            due("flip(0, " + n + ")", x.flip(0, n), BAD);
            due("flip(" + n + ", 0)", x.flip(n, 0), BAD);
            due("flip(" + n + " twice)", x.flip(n, n), BAD);
        }
        same("flip answering BAD or REFUSED", state(x), before);
    }

    private static void collapse() {
        SurfaceMesh x = doublePyramid();
        due("collapse(0, 4)", x.collapse(0, 4), 4);
        hasExactly("collapse(0, 4)", x, 15, f(0, 1, 2), f(0, 2, 3), f(0, 3, 1), f(1, 3, 2));
        x = doublePyramid();
        due("collapse(4, 0)", x.collapse(4, 0), 4);
        hasExactly("collapse(4, 0)", x, 30, f(4, 1, 2), f(4, 2, 3), f(4, 3, 1), f(1, 3, 2));
        x = layers();
        due("collapse(5, 0)", x.collapse(5, 0), 7);
        due("vertices()", x.vertices(), 254);
        due("isFace(5, 2, 3)", x.isFace(5, 2, 3), true);
        due("isFace(5, 3, 1)", x.isFace(5, 3, 1), true);
        due("joined(5)", x.joined(5), 1 << 1 | 1 << 2 | 1 << 3 | 1 << 4 | 1 << 6 | 1 << 7);
        due("joined(0)", x.joined(0), 0);
        due("faces()", x.faces(), 10);
    }

    private static void collapseRefusals() {
        SurfaceMesh x = new SurfaceMesh();
        String before = state(x);
        for (int a = 0; a < 4; a++) {
            for (int b = 0; b < 4; b++) {
                due("collapse(" + a + ", " + b + ") of four", x.collapse(a, b), a == b ? BAD : REFUSED);
            }
        }
        due("collapse(0, 4) of four", x.collapse(0, 4), BAD);
        same("collapse of four", state(x), before);

        x = doublePyramid();
        before = state(x);
        due("collapse(2, 3)", x.collapse(2, 3), REFUSED);
        due("collapse(3, 2)", x.collapse(3, 2), REFUSED);
        due("collapse(0, 1)", x.collapse(0, 1), BAD);
        due("collapse(0, 5)", x.collapse(0, 5), BAD);
        due("collapse(5, 0)", x.collapse(5, 0), BAD);
        for (int n : NO_NUMBERS) {
            due("collapse(0, " + n + ")", x.collapse(0, n), BAD);
            due("collapse(" + n + ", 0)", x.collapse(n, 0), BAD);
            due("collapse(" + n + " twice)", x.collapse(n, n), BAD);
        }
        same("collapse answering BAD or REFUSED", state(x), before);
    }

    private static void vertices() {
        SurfaceMesh x = new SurfaceMesh();
        due("vertices()", x.vertices(), 15);
        due("vertices() of ten", fullOne().vertices(), 1023);
        x.splitEdge(0, 1);
        due("vertices() after splitEdge", x.vertices(), 31);
        x.flip(2, 3);
        due("vertices() after flip", x.vertices(), 31);
        x.collapse(4, 2);
        due("vertices() after collapse", x.vertices(), 27);
    }

    private static void faces() {
        SurfaceMesh x = new SurfaceMesh();
        due("faces()", x.faces(), 4);
        due("faces() of ten", fullOne().faces(), 16);
        x.splitEdge(0, 1);
        due("faces() after splitEdge", x.faces(), 6);
        x.splitFace(0, 2, 3);
        due("faces() after splitFace", x.faces(), 8);
        x.flip(2, 3);
        due("faces() after flip", x.faces(), 8);
        x.collapse(0, 4);
        due("faces() after collapse", x.faces(), 6);
    }

    private static void isFace() {
        SurfaceMesh x = new SurfaceMesh();
        due("isFace(1, 3, 2)", x.isFace(1, 3, 2), true);
        due("isFace(3, 2, 1)", x.isFace(3, 2, 1), true);
        due("isFace(2, 1, 3)", x.isFace(2, 1, 3), true);
        due("isFace(1, 2, 3)", x.isFace(1, 2, 3), false);
        due("isFace(1, 1, 3)", x.isFace(1, 1, 3), false);
        due("isFace(1, 3, 1)", x.isFace(1, 3, 1), false);
        due("isFace(0, 0, -1)", x.isFace(0, 0, -1), false);
        due("isFace(4, 5, -1)", x.isFace(4, 5, -1), false);
        due("isFace(-1, -1, -1)", x.isFace(-1, -1, -1), false);
        for (int n : NO_NUMBERS) {
            due("isFace(1, 3, " + n + ")", x.isFace(1, 3, n), false);
            due("isFace(1, " + n + ", 2)", x.isFace(1, n, 2), false);
            due("isFace(" + n + ", 3, 2)", x.isFace(n, 3, 2), false);
        }
        x.splitFace(1, 3, 2);
        due("isFace(1, 3, 2) after splitFace", x.isFace(1, 3, 2), false);
        due("isFace(4, 1, 3) after splitFace", x.isFace(4, 1, 3), true);
    }

    private static void joined() {
        SurfaceMesh x = doublePyramid();
        due("joined(0)", x.joined(0), 28);
        due("joined(1)", x.joined(1), 28);
        due("joined(2)", x.joined(2), 27);
        due("joined(3)", x.joined(3), 23);
        due("joined(4)", x.joined(4), 15);
        for (int v = 5; v < 10; v++) {
            due("joined(" + v + ")", x.joined(v), 0);
        }
        for (int n : NO_NUMBERS) {
            due("joined(" + n + ")", x.joined(n), 0);
        }
    }

    private static void opposite() {
        SurfaceMesh x = doublePyramid();
        due("opposite(0, 4)", x.opposite(0, 4), 2);
        due("opposite(4, 0)", x.opposite(4, 0), 3);
        due("opposite(2, 3)", x.opposite(2, 3), 0);
        due("opposite(3, 2)", x.opposite(3, 2), 1);
        due("opposite(0, 1)", x.opposite(0, 1), BAD);
        due("opposite(3, 3)", x.opposite(3, 3), BAD);
        due("opposite(0, 5)", x.opposite(0, 5), BAD);
        for (int n : NO_NUMBERS) {
            due("opposite(0, " + n + ")", x.opposite(0, n), BAD);
            due("opposite(" + n + ", 0)", x.opposite(n, 0), BAD);
            due("opposite(" + n + " twice)", x.opposite(n, n), BAD);
        }
    }

    private static void around() {
        SurfaceMesh x = doublePyramid();
        // (2, 3, 0), (2, 0, 4), (2, 4, 1) and (2, 1, 3) lie around 2.
        int[] ring = {3, 0, 4, 1};
        for (int start = 0; start < 4; start++) {
            for (int k = -20; k <= 20; k++) {
                due("around(2, " + ring[start] + ", " + k + ")",
                    x.around(2, ring[start], k), ring[(start + k + 20) % 4]);
            }
        }
        // (0, 2, 3), (0, 3, 4) and (0, 4, 2) lie around 0: here 20 steps are no whole number of rounds.
        int[] three = {2, 3, 4};
        for (int k = -20; k <= 20; k++) {
            due("around(0, 2, " + k + ")", x.around(0, 2, k), three[(k + 21) % 3]);
        }
        for (int k : new int[] {-21, 21, 22, -22, 1000, Integer.MAX_VALUE, Integer.MIN_VALUE}) {
            due("around(2, 3, " + k + ")", x.around(2, 3, k), BAD);
            due("around(0, 1, " + k + ")", x.around(0, 1, k), BAD);
        }
        for (int k = -1; k <= 1; k++) {
            due("around(0, 1, " + k + ")", x.around(0, 1, k), BAD);
            due("around(2, 2, " + k + ")", x.around(2, 2, k), BAD);
            due("around(5, 0, " + k + ")", x.around(5, 0, k), BAD);
            due("around(0, 5, " + k + ")", x.around(0, 5, k), BAD);
            for (int n : NO_NUMBERS) {
                due("around(0, " + n + ", " + k + ")", x.around(0, n, k), BAD);
                due("around(" + n + ", 0, " + k + ")", x.around(n, 0, k), BAD);
            }
        }
    }

    private static void distance() {
        SurfaceMesh x = layers();
        int[][] layer = {{3}, {0, 1, 2}, {5, 6, 7}, {4}};
        for (int i = 0; i < 4; i++) {
            for (int v : layer[i]) {
                due("distance(3, " + v + ")", x.distance(3, v), i);
                due("distance(" + v + ", 3)", x.distance(v, 3), i);
                due("distance(4, " + v + ")", x.distance(4, v), 3 - i);
                due("distance(" + v + " twice)", x.distance(v, v), 0);
            }
        }
        due("distance(3, 8)", x.distance(3, 8), BAD);
        due("distance(8, 3)", x.distance(8, 3), BAD);
        due("distance(8, 8)", x.distance(8, 8), BAD);
        for (int n : NO_NUMBERS) {
            due("distance(0, " + n + ")", x.distance(0, n), BAD);
            due("distance(" + n + ", 0)", x.distance(n, 0), BAD);
            due("distance(" + n + " twice)", x.distance(n, n), BAD);
        }
    }

    private static void ofDegree() {
        SurfaceMesh x = doublePyramid();
        SurfaceMesh full = fullOne();
        int[] wantSmall = {0, 0, 0, 2, 3, 0, 0, 0, 0, 0, 0};
        int[] wantFull = {0, 0, 0, 2, 6, 0, 0, 0, 0, 2, 0};
        for (int n = 0; n < 11; n++) {
            due("ofDegree(" + n + ") of five", x.ofDegree(n), wantSmall[n]);
            due("ofDegree(" + n + ") of ten", full.ofDegree(n), wantFull[n]);
        }
        for (int n : NO_NUMBERS) {
            due("ofDegree(" + n + ")", x.ofDegree(n), 0);
        }
    }

    private static void flippable() {
        due("flippable() at the beginning", new SurfaceMesh().flippable(), 0);
        SurfaceMesh x = doublePyramid();
        due("flippable() of five", x.flippable(), 3);
        due("flippable() asked again", x.flippable(), 3);
        x.splitEdge(2, 3);
        due("flippable() of the octahedron", x.flippable(), 12);
    }

    private static void collapsible() {
        due("collapsible() at the beginning", new SurfaceMesh().collapsible(), 0);
        SurfaceMesh x = doublePyramid();
        due("collapsible() of five", x.collapsible(), 12);
        due("collapsible() asked again", x.collapsible(), 12);
        x.splitEdge(2, 3);
        due("collapsible() of the octahedron", x.collapsible(), 24);
    }
}
