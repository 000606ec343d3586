import java.util.ArrayList;
import java.util.List;
import java.util.TreeSet;

/**
 * Long runs of calls, each answer held against a plain list of faces that follows the document word by word.
 * The runs are the same every time: their numbers come from a fixed rule.
 */
public final class ModelTest {
    private static final int RUNS = 1000;
    private static final int CALLS = 512;
    private static int wrong = 0;
    private static int[] seen = new int[16];
    private static long seed;

    public static void main(String[] args) {
        for (int run = 0; run < RUNS && wrong < 20; run++) {
            seed = run;
            walk(run);
        }
        everyKindOfAnswerWasSeen();
        System.out.println(wrong == 0 ? "all answers are as due" : wrong + " answers are not as due");
        if (wrong != 0) {
            System.exit(1);
        }
    }

    private static void everyKindOfAnswerWasSeen() {
        for (int kind = 0; kind < 13; kind++) {
            if (seen[kind] == 0) {
                wrong++;
                System.out.println("no run reached the kind of answer " + kind);
            }
        }
    }

    private static int draw(int bound) {
        seed = seed * 6364136223846793005L + 1442695040888963407L;
        return (int) ((seed >>> 33) % bound);
    }

    private static void walk(int run) {
        SurfaceMesh x = new SurfaceMesh();
        Model m = new Model();
        // Some runs grow and some shrink, so that both ends are reached often.
        int leaning = run % 3;
        for (int call = 0; call < CALLS && wrong < 20; call++) {
            int[] face = m.faces.get(draw(m.faces.size()));
            int turn = draw(3);
            int a = face[turn];
            int b = face[(turn + 1) % 3];
            int c = face[(turn + 2) % 3];
            if (draw(6) == 0) {
                a = draw(13) - 2;
            }
            if (draw(6) == 0) {
                b = draw(13) - 2;
            }
            if (draw(6) == 0) {
                c = draw(13) - 2;
            }
            compare(run + "/" + call, x, m, choose(leaning), new int[] {a, b, c, draw(47) - 23});
        }
    }

    private static int choose(int leaning) {
        int kind = draw(20);
        if (kind < 14) {
            return kind;
        }
        return leaning == 0 ? draw(3) : leaning == 1 ? 2 + draw(2) : draw(4);
    }

    private static void compare(String where, SurfaceMesh x, Model m, int kind, int[] p) {
        long got;
        long want;
        switch (kind) {
            case 0: got = x.splitFace(p[0], p[1], p[2]); want = m.splitFace(p[0], p[1], p[2]); note(0, want); break;
            case 1: got = x.splitEdge(p[0], p[1]); want = m.splitEdge(p[0], p[1]); note(3, want); break;
            case 2: got = x.flip(p[0], p[1]); want = m.flip(p[0], p[1]); note(6, want); break;
            case 3: got = x.collapse(p[0], p[1]); want = m.collapse(p[0], p[1]); note(9, want); break;
            case 4: got = x.vertices(); want = m.bits(m.vertices); break;
            case 5: got = x.faces(); want = m.faces.size(); break;
            case 6: got = x.isFace(p[0], p[1], p[2]) ? 1 : 0; want = m.find(p[0], p[1], p[2]) >= 0 ? 1 : 0; break;
            case 7: got = x.joined(p[0]); want = m.bits(m.joined(p[0])); break;
            case 8: got = x.opposite(p[0], p[1]); want = m.opposite(p[0], p[1]); break;
            case 9: got = x.around(p[0], p[1], p[3]); want = m.around(p[0], p[1], p[3]); break;
            case 10: got = x.distance(p[0], p[1]); want = m.distance(p[0], p[1]); note(12, want - 3); break;
            case 11: got = x.ofDegree(p[3]); want = m.ofDegree(p[3]); break;
            case 12: got = x.flippable(); want = m.flippable(); break;
            default: got = x.collapsible(); want = m.collapsible(); break;
        }
        if (got != want) {
            wrong++;
            System.out.println("run/call " + where + ", method " + kind + " (" + p[0] + ", " + p[1] + ", " + p[2]
                + ", " + p[3] + ") answered " + got + ", due is " + want);
        }
    }

    private static void note(int kind, long answer) {
        if (answer >= 0) {
            seen[kind]++;
        } else if (kind < 12) {
            seen[kind + (answer == -1 ? 1 : 2)]++;
        }
    }

    private static final class Model {
        final TreeSet<Integer> vertices = new TreeSet<>(List.of(0, 1, 2, 3));
        final List<int[]> faces = new ArrayList<>();

        Model() {
            put(0, 1, 2);
            put(0, 2, 3);
            put(0, 3, 1);
            put(1, 3, 2);
        }

        Model(Model other) {
            vertices.clear();
            vertices.addAll(other.vertices);
            for (int[] f : other.faces) {
                put(f[0], f[1], f[2]);
            }
        }

        void put(int a, int b, int c) {
            faces.add(new int[] {a, b, c});
        }

        int find(int a, int b, int c) {
            for (int i = 0; i < faces.size(); i++) {
                int[] f = faces.get(i);
                for (int t = 0; t < 3; t++) {
                    if (f[t] == a && f[(t + 1) % 3] == b && f[(t + 2) % 3] == c) {
                        return i;
                    }
                }
            }
            return -1;
        }

        void remove(int a, int b, int c) {
            faces.remove(find(a, b, c));
        }

        int bits(TreeSet<Integer> set) {
            int sum = 0;
            for (int v : set) {
                sum += 1 << v;
            }
            return sum;
        }

        TreeSet<Integer> joined(int a) {
            TreeSet<Integer> set = new TreeSet<>();
            for (int[] f : faces) {
                if (f[0] == a || f[1] == a || f[2] == a) {
                    set.addAll(List.of(f[0], f[1], f[2]));
                }
            }
            set.remove(a);
            return set;
        }

        boolean are(int a, int b) {
            return joined(a).contains(b);
        }

        int opposite(int a, int b) {
            for (int c = 0; c < 10; c++) {
                if (find(a, b, c) >= 0) {
                    return c;
                }
            }
            return -1;
        }

        int fresh() {
            int v = 0;
            while (vertices.contains(v)) {
                v++;
            }
            vertices.add(v);
            return v;
        }

        int splitFace(int a, int b, int c) {
            if (find(a, b, c) < 0) {
                return -1;
            }
            if (vertices.size() == 10) {
                return -2;
            }
            int v = fresh();
            remove(a, b, c);
            put(a, b, v);
            put(b, c, v);
            put(c, a, v);
            return v;
        }

        int splitEdge(int a, int b) {
            if (!are(a, b)) {
                return -1;
            }
            if (vertices.size() == 10) {
                return -2;
            }
            int c = opposite(a, b);
            int d = opposite(b, a);
            int v = fresh();
            remove(a, b, c);
            remove(b, a, d);
            put(a, v, c);
            put(v, b, c);
            put(b, v, d);
            put(v, a, d);
            return v;
        }

        int flip(int a, int b) {
            if (!are(a, b)) {
                return -1;
            }
            int c = opposite(a, b);
            int d = opposite(b, a);
            if (c == d || are(c, d)) {
                return -3;
            }
            remove(a, b, c);
            remove(b, a, d);
            put(c, a, d);
            put(d, b, c);
            return 0;
        }

        int collapse(int a, int b) {
            if (!are(a, b)) {
                return -1;
            }
            TreeSet<Integer> both = joined(a);
            both.retainAll(joined(b));
            if (vertices.size() == 4 || both.size() > 2) {
                return -3;
            }
            remove(a, b, opposite(a, b));
            remove(b, a, opposite(b, a));
            for (int[] f : faces) {
                for (int t = 0; t < 3; t++) {
                    if (f[t] == b) {
                        f[t] = a;
                    }
                }
            }
            vertices.remove(b);
            return vertices.size();
        }

        int around(int a, int b, int k) {
            if (!are(a, b) || k < -20 || k > 20) {
                return -1;
            }
            List<Integer> ring = new ArrayList<>();
            for (int v = b; !ring.contains(v); v = opposite(a, v)) {
                ring.add(v);
            }
            return ring.get(Math.floorMod(k, ring.size()));
        }

        int distance(int a, int b) {
            if (!vertices.contains(a) || !vertices.contains(b)) {
                return -1;
            }
            int[][] way = new int[10][10];
            for (int u = 0; u < 10; u++) {
                for (int v = 0; v < 10; v++) {
                    way[u][v] = u == v ? 0 : are(u, v) ? 1 : 1000;
                }
            }
            for (int by = 0; by < 10; by++) {
                for (int u = 0; u < 10; u++) {
                    for (int v = 0; v < 10; v++) {
                        way[u][v] = Math.min(way[u][v], way[u][by] + way[by][v]);
                    }
                }
            }
            return way[a][b];
        }

        int ofDegree(int n) {
            int count = 0;
            for (int v : vertices) {
                count += joined(v).size() == n ? 1 : 0;
            }
            return count;
        }

        int flippable() {
            int count = 0;
            for (int a : vertices) {
                for (int b : joined(a)) {
                    count += a < b && new Model(this).flip(a, b) == 0 ? 1 : 0;
                }
            }
            return count;
        }

        int collapsible() {
            int count = 0;
            for (int a : vertices) {
                for (int b : vertices) {
                    count += new Model(this).collapse(a, b) >= 0 ? 1 : 0;
                }
            }
            return count;
        }
    }
}
