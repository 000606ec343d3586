import java.util.ArrayDeque;
import java.util.ArrayList;
import java.util.Arrays;
import java.util.HashSet;
import java.util.List;
import java.util.function.Supplier;

/**
 * The boundary cases of the document, each under the sentence that names it. A test is told by its promise and the
 * sentence's words; it asks what the call answers there and what the surface is afterwards.
 */
public final class BoundariesTest {
    private static final int BAD = -1;
    private static final int FULL = -2;
    private static final int REFUSED = -3;
    private static final int MOST_CALLS = 512;

    private static final String[] METHODS = {
        "splitFace", "splitEdge", "flip", "collapse", "vertices", "faces", "isFace", "joined", "opposite", "around",
        "distance", "ofDegree", "flippable", "collapsible"
    };

    // 10, -9 and the like would hit another pair in a table of ten by ten, 32 and 33 another bit of an int,
    // and 429496730 times ten wraps around to 4.
    private static final int[] OUTSIDE = {
        -1, -2, -9, -10, -11, -100, 10, 11, 19, 20, 31, 32, 33, 64, 99, 100, 65536, 429496730, -429496730,
        Integer.MAX_VALUE, Integer.MAX_VALUE - 1, Integer.MIN_VALUE, Integer.MIN_VALUE + 1
    };

    private static final int[][] FOUR_FACES = {{0, 1, 2}, {0, 2, 3}, {0, 3, 1}, {1, 3, 2}};
    private static final int[][] FIVE_FACES = {{0, 4, 2}, {4, 1, 2}, {1, 4, 3}, {4, 0, 3}, {0, 2, 3}, {1, 3, 2}};
    private static final int[][] SIX_FACES = {
        {0, 4, 2}, {4, 1, 2}, {1, 4, 3}, {4, 0, 3}, {2, 5, 0}, {5, 3, 0}, {3, 5, 1}, {5, 2, 1}
    };
    private static final int[][] NINE_FACES = {
        {0, 1, 8}, {1, 2, 4}, {2, 0, 4}, {1, 4, 5}, {4, 0, 5}, {1, 5, 6}, {5, 0, 6}, {1, 6, 7}, {6, 0, 7},
        {1, 7, 8}, {7, 0, 8}, {0, 2, 3}, {0, 3, 1}, {1, 3, 2}
    };
    private static final int[][] TEN_FACES = {
        {0, 1, 9}, {1, 2, 4}, {2, 0, 4}, {1, 4, 5}, {4, 0, 5}, {1, 5, 6}, {5, 0, 6}, {1, 6, 7}, {6, 0, 7},
        {1, 7, 8}, {7, 0, 8}, {1, 8, 9}, {8, 0, 9}, {0, 2, 3}, {0, 3, 1}, {1, 3, 2}
    };
    private static final int[][] HIGH_FACES = {{6, 9, 7}, {6, 7, 8}, {7, 9, 8}, {6, 8, 9}};

    private static String sentence;
    private static int wrong = 0;
    private static int wrongHere;

    public static void main(String[] args) {
        terms();
        makingAndCutting();
        turningAndDrawing();
        asking();
        rules();
        System.out.println(wrong == 0 ? "every boundary holds" : wrong + " answers are not as due");
        if (wrong != 0) {
            System.exit(1);
        }
    }

    private static void terms() {
        test("what it is: at most 512 calls", BoundariesTest::theLastCall);
        test("terms: out of the numbers 0 .. 9", BoundariesTest::theNumbersEnd);
        test("terms: a triple of three different vertices", BoundariesTest::threeDifferentVertices);
        test("terms: (b, c, a) is the same face, (a, c, b) another", BoundariesTest::turnedFaces);
        test("terms: an arrow is had by one face at most, and with it the one back", BoundariesTest::closedSurfaces);
        test("terms: joined, never to itself and always both ways", BoundariesTest::joinedBothWays);
        test("terms: the ring comes back to where it began", BoundariesTest::ringsClose);
    }

    private static void makingAndCutting() {
        test("1: the beginning", BoundariesTest::theBeginning);
        test("2: splitFace, the least number that no vertex has", BoundariesTest::splitFaceLeastNumber);
        test("2: splitFace, the face whichever corner is named first", BoundariesTest::splitFaceTurned);
        test("2: splitFace, BAD when there is no such face", BoundariesTest::splitFaceNoFace);
        test("2: splitFace, FULL when there are ten vertices", BoundariesTest::splitFaceFull);
        test("2: splitFace, BAD is tested before FULL", BoundariesTest::splitFaceOrder);
        test("3: splitEdge, the least number that no vertex has", BoundariesTest::splitEdgeLeastNumber);
        test("3: splitEdge, the edge from either end", BoundariesTest::splitEdgeEitherEnd);
        test("3: splitEdge, BAD when a and b are not joined", BoundariesTest::splitEdgeNotJoined);
        test("3: splitEdge, FULL when there are ten vertices", BoundariesTest::splitEdgeFull);
        test("3: splitEdge, BAD is tested before FULL", BoundariesTest::splitEdgeOrder);
    }

    private static void turningAndDrawing() {
        test("4: flip, answers 0 from either end, with ten vertices too", BoundariesTest::flipEitherEnd);
        test("4: flip, BAD when a and b are not joined", BoundariesTest::flipNotJoined);
        test("4: flip, REFUSED when c and d are joined", BoundariesTest::flipRefused);
        test("4: flip, REFUSED when c = d, which no surface has", BoundariesTest::flipSameOpposites);
        test("4: flip, BAD is tested before REFUSED", BoundariesTest::flipOrder);
        test("5: collapse, a takes the place of b", BoundariesTest::collapseTakesThePlace);
        test("5: collapse, b is no vertex any more", BoundariesTest::collapseGone);
        test("5: collapse, answers the number of vertices then", BoundariesTest::collapseCounts);
        test("5: collapse, BAD when a and b are not joined", BoundariesTest::collapseNotJoined);
        test("5: collapse, REFUSED when there are only four vertices", BoundariesTest::collapseOnlyFour);
        test("5: collapse, REFUSED when more than two are joined to both", BoundariesTest::collapseMoreThanTwo);
        test("5: collapse, BAD is tested before REFUSED", BoundariesTest::collapseOrder);
    }

    private static void asking() {
        test("6: vertices, bit v for vertex v", BoundariesTest::verticesBits);
        test("7: faces, the fewest and the most", BoundariesTest::facesEnds);
        test("8: isFace, false for all that is no face", BoundariesTest::isFaceOfNothingElse);
        test("9: joined, from three to nine others", BoundariesTest::joinedEnds);
        test("9: joined, 0 when there is no vertex a", BoundariesTest::joinedOfNoVertex);
        test("10: opposite, one answer for each arrow", BoundariesTest::oppositeEachArrow);
        test("10: opposite, BAD when a and b are not joined", BoundariesTest::oppositeNotJoined);
        test("11: around, k steps after b, past the end of the ring", BoundariesTest::aroundAfter);
        test("11: around, k below 0: before it", BoundariesTest::aroundBefore);
        test("11: around, no step at all", BoundariesTest::aroundNoStep);
        test("11: around, BAD when a and b are not joined", BoundariesTest::aroundNotJoined);
        test("11: around, BAD when k is not -20 .. 20", BoundariesTest::aroundTooFar);
        test("12: distance, from a vertex to itself and to the farthest", BoundariesTest::distanceEnds);
        test("12: distance, BAD when one is no vertex", BoundariesTest::distanceOfNoVertex);
        test("13: ofDegree, exactly n: none below three or above nine", BoundariesTest::ofDegreeEnds);
        test("13: ofDegree, vertices alone are counted", BoundariesTest::ofDegreeOfVertices);
        test("14: flippable, none and all", BoundariesTest::flippableEnds);
        test("14: flippable, the edges that flip would not refuse", BoundariesTest::flippableCounts);
        test("15: collapsible, none and all", BoundariesTest::collapsibleEnds);
        test("15: collapsible, the pairs that collapse would not refuse", BoundariesTest::collapsibleCounts);
        test("6 to 15: what is only asked changes nothing", BoundariesTest::askingChangesNothing);
    }

    private static void rules() {
        test("rule 7: no call throws, whatever it is given", BoundariesTest::anyArguments);
        test("rule 7: no call throws after the 512th", BoundariesTest::afterTheLastCall);
    }

    // ---- the surfaces ----

    /** Two points, 0 and 1, over the triangle 2, 3, 4; 0 and 1 are not joined. */
    private static Run five() {
        return new Run().due(4, "splitEdge", 0, 1);
    }

    /** The octahedron: 0 faces 1, 2 faces 3, 4 faces 5. */
    private static Run six() {
        return five().due(5, "splitEdge", 2, 3);
    }

    /** 0 and 1 are joined to all; the others lie in the row 3, 2, 4, 5, 6, 7, 8. */
    private static Run nine() {
        Run x = new Run().due(4, "splitFace", 0, 1, 2);
        for (int v = 5; v < 9; v++) {
            x.due(v, "splitFace", 0, 1, v - 1);
        }
        return x;
    }

    /** 0 and 1 are joined to all; the others lie in the row 3, 2, 4, 5, 6, 7, 8, 9. */
    private static Run ten() {
        return nine().due(9, "splitFace", 0, 1, 8);
    }

    /** The row of ten drawn together at its low end. */
    private static Run lowGone() {
        return ten().due(9, "collapse", 2, 3).due(8, "collapse", 4, 2).due(7, "collapse", 5, 4)
            .due(6, "collapse", 6, 5);
    }

    /** The vertices 6, 7, 8, 9 alone. */
    private static Run high() {
        return lowGone().due(5, "collapse", 9, 0).due(4, "collapse", 6, 1);
    }

    /** Four layers: 3, then 0, 1, 2, then 5, 6, 7, then 4. */
    private static Run layers() {
        return new Run().due(4, "splitFace", 0, 1, 2).due(5, "splitEdge", 4, 0).due(6, "splitEdge", 4, 1)
            .due(7, "splitEdge", 4, 2);
    }

    // ---- what it is, and terms ----

    private static void theLastCall() {
        Run x = new Run();
        for (int i = 0; i < 255; i++) {
            x.due(4, "splitEdge", 0, 1).due(4, "collapse", 0, 4);
        }
        x.due(4, "splitFace", 0, 1, 2).due(31, "vertices").madeAllCalls();
        Run y = new Run();
        for (int i = 0; i < 42; i++) {
            for (int v = 4; v < 10; v++) {
                y.due(v, "splitFace", 0, 1, v == 4 ? 2 : v - 1);
            }
            for (int v = 9; v > 3; v--) {
                y.due(v, "collapse", v == 4 ? 2 : v - 1, v);
            }
        }
        for (int v = 4; v < 10; v++) {
            y.due(v, "splitFace", 0, 1, v == 4 ? 2 : v - 1);
        }
        y.due(8, "around", 0, 1, 20).due(FULL, "splitEdge", 0, 1).madeAllCalls();
    }

    private static void theNumbersEnd() {
        for (int n : OUTSIDE) {
            ten().due(0, "joined", n).due(BAD, "distance", n, n).due(BAD, "distance", 0, n)
                .due(0, "isFace", 0, 1, n).due(BAD, "splitFace", 0, 1, n).due(BAD, "splitEdge", 0, n)
                .due(BAD, "flip", n, 0).due(BAD, "collapse", 0, n).due(BAD, "opposite", 0, n)
                .due(BAD, "around", 0, n, 0).due(1023, "vertices").is(1023, TEN_FACES);
        }
        ten().due(259, "joined", 9).due(1022, "joined", 0).due(1, "distance", 0, 9).due(0, "distance", 9, 9);
    }

    private static void threeDifferentVertices() {
        for (int a = 0; a < 5; a++) {
            Run x = five();
            for (int b = 0; b < 5; b++) {
                x.due(0, "isFace", a, a, b).due(0, "isFace", a, b, a).due(0, "isFace", b, a, a);
                x.due(BAD, "splitFace", a, a, b).due(BAD, "splitFace", a, b, a).due(BAD, "splitFace", b, a, a);
            }
            x.is(31, FIVE_FACES);
        }
    }

    private static void turnedFaces() {
        for (int[] f : FOUR_FACES) {
            new Run().due(1, "isFace", f[0], f[1], f[2]).due(1, "isFace", f[1], f[2], f[0])
                .due(1, "isFace", f[2], f[0], f[1]).due(0, "isFace", f[0], f[2], f[1])
                .due(0, "isFace", f[2], f[1], f[0]).due(0, "isFace", f[1], f[0], f[2]);
        }
    }

    private static void closedSurfaces() {
        for (String state : everySmallSurface()) {
            checkClosed(state);
        }
        for (Supplier<Run> maker : makers()) {
            checkClosed(maker.get().state());
        }
    }

    /** The state is told by vertices() and opposite(a, b) for each a and b, as Run.state() has it. */
    private static void checkClosed(String state) {
        int[] s = numbers(state);
        int arrows = 0;
        for (int a = 0; a < 10; a++) {
            for (int b = 0; b < 10; b++) {
                int c = s[2 + 10 * a + b];
                if (c == BAD) {
                    expect("the arrow back of none, " + b + " to " + a, s[2 + 10 * b + a], BAD);
                    continue;
                }
                arrows++;
                expect("opposite(" + b + ", " + c + ")", s[2 + 10 * b + c], a);
                expect("opposite(" + c + ", " + a + ")", s[2 + 10 * c + a], b);
                expect("an arrow back, " + b + " to " + a, s[2 + 10 * b + a] == BAD ? 0 : 1, 1);
                expect("vertices at both ends of " + a + " to " + b, s[0] >> a & s[0] >> b & 1, 1);
            }
        }
        expect("arrows, three for each face", arrows, 3 * s[1]);
        expect("faces for the vertices", s[1], 2 * Integer.bitCount(s[0]) - 4);
    }

    private static void joinedBothWays() {
        for (Supplier<Run> maker : makers()) {
            Run x = maker.get();
            int[] sets = new int[10];
            for (int a = 0; a < 10; a++) {
                sets[a] = (int) x.ask("joined", a);
                expect("joined(" + a + ") without itself", sets[a] >> a & 1, 0);
                x.due(BAD, "opposite", a, a).due(BAD, "around", a, a, 0).due(BAD, "splitEdge", a, a)
                    .due(BAD, "flip", a, a).due(BAD, "collapse", a, a);
            }
            for (int a = 0; a < 10; a++) {
                for (int b = 0; b < 10; b++) {
                    expect(a + " joined to " + b + " as back", sets[a] >> b & 1, sets[b] >> a & 1);
                }
            }
        }
    }

    private static void ringsClose() {
        for (Supplier<Run> maker : makers()) {
            Run x = maker.get();
            for (int a = 0; a < 10; a++) {
                int set = (int) x.ask("joined", a);
                int first = Integer.numberOfTrailingZeros(set);
                int walked = 0;
                int at = first;
                for (int i = 0; i < Integer.bitCount(set); i++) {
                    walked |= 1 << at;
                    at = (int) x.ask("opposite", a, at);
                }
                if (set != 0) {
                    expect("the ring around " + a, walked, set);
                    expect("the end of the ring around " + a, at, first);
                }
            }
        }
    }

    // ---- promise 1 ----

    private static void theBeginning() {
        new Run().is(15, FOUR_FACES);
        new Run().due(4, "faces").due(14, "joined", 0).due(13, "joined", 1).due(11, "joined", 2).due(7, "joined", 3)
            .due(4, "ofDegree", 3).due(0, "flippable").due(0, "collapsible").due(0, "joined", 4);
        Run one = ten();
        new Run().is(15, FOUR_FACES);
        one.is(1023, TEN_FACES);
    }

    // ---- promise 2 ----

    private static void splitFaceLeastNumber() {
        new Run().due(4, "splitFace", 0, 1, 2).due(31, "vertices");
        five().due(4, "collapse", 4, 0).due(0, "splitFace", 1, 3, 2).is(31,
            new int[][] {{4, 1, 2}, {4, 2, 3}, {4, 3, 1}, {1, 3, 0}, {3, 2, 0}, {2, 1, 0}});
        ten().due(9, "collapse", 0, 9).due(8, "collapse", 1, 3).due(503, "vertices").due(3, "splitFace", 0, 1, 8)
            .due(9, "splitFace", 0, 1, 3).due(FULL, "splitFace", 0, 1, 9).due(1023, "vertices");
        Run x = high();
        int[] face = {6, 9, 7};
        for (int v = 0; v < 6; v++) {
            x.due(v, "splitFace", face[0], face[1], face[2]);
            face[2] = v;
        }
        x.due(1023, "vertices").due(FULL, "splitFace", 6, 9, 5);
    }

    private static void splitFaceTurned() {
        for (int turn = 0; turn < 3; turn++) {
            int[] f = {1, 3, 2};
            new Run().due(4, "splitFace", f[turn], f[(turn + 1) % 3], f[(turn + 2) % 3]).is(31,
                new int[][] {{0, 1, 2}, {0, 2, 3}, {0, 3, 1}, {1, 3, 4}, {3, 2, 4}, {2, 1, 4}});
            int[] g = {0, 1, 8};
            nine().due(9, "splitFace", g[turn], g[(turn + 1) % 3], g[(turn + 2) % 3]).is(1023, TEN_FACES);
        }
    }

    private static void splitFaceNoFace() {
        noSuchTriple(BoundariesTest::five, 31, FIVE_FACES, BAD, "splitFace");
        new Run().due(BAD, "splitFace", 0, 2, 1).due(BAD, "splitFace", 2, 1, 0).is(15, FOUR_FACES);
        // 0, 1 and 2 are joined to one another, but their face has been cut.
        new Run().due(4, "splitFace", 0, 1, 2).due(BAD, "splitFace", 0, 1, 2).due(BAD, "splitFace", 1, 2, 0)
            .due(BAD, "splitFace", 0, 2, 1).due(31, "vertices").due(6, "faces");
        five().due(4, "collapse", 4, 0).due(BAD, "splitFace", 0, 2, 3).due(BAD, "splitFace", 0, 1, 2).is(30,
            new int[][] {{4, 1, 2}, {4, 2, 3}, {4, 3, 1}, {1, 3, 2}});
        new Run().due(BAD, "splitFace", 0, 1, 4).due(BAD, "splitFace", 4, 5, BAD).due(BAD, "splitFace", 0, 0, BAD)
            .is(15, FOUR_FACES);
    }

    private static void splitFaceFull() {
        nine().is(511, NINE_FACES);
        nine().due(9, "splitFace", 0, 1, 8).is(1023, TEN_FACES);
        Run x = ten();
        for (int[] f : TEN_FACES) {
            x.due(FULL, "splitFace", f[0], f[1], f[2]).due(FULL, "splitFace", f[1], f[2], f[0])
                .due(FULL, "splitFace", f[2], f[0], f[1]);
        }
        x.is(1023, TEN_FACES);
        x.due(9, "collapse", 8, 9).due(9, "splitFace", 0, 1, 8).is(1023, TEN_FACES);
    }

    private static void splitFaceOrder() {
        noSuchTriple(BoundariesTest::ten, 1023, TEN_FACES, BAD, "splitFace");
    }

    // ---- promise 3 ----

    private static void splitEdgeLeastNumber() {
        new Run().due(4, "splitEdge", 0, 1).due(31, "vertices");
        five().due(4, "collapse", 4, 0).due(0, "splitEdge", 1, 3).is(31,
            new int[][] {{4, 1, 2}, {4, 2, 3}, {1, 0, 2}, {0, 3, 2}, {3, 0, 4}, {0, 1, 4}});
        ten().due(9, "collapse", 0, 9).due(8, "collapse", 1, 3).due(503, "vertices").due(3, "splitEdge", 0, 1)
            .due(9, "splitEdge", 0, 3).due(FULL, "splitEdge", 0, 9).due(1023, "vertices");
        Run x = high();
        int end = 7;
        for (int v = 0; v < 6; v++) {
            x.due(v, "splitEdge", 6, end);
            end = v;
        }
        x.due(1023, "vertices").due(FULL, "splitEdge", 6, 5);
    }

    private static void splitEdgeEitherEnd() {
        new Run().due(4, "splitEdge", 0, 1).is(31, FIVE_FACES);
        new Run().due(4, "splitEdge", 1, 0).is(31, FIVE_FACES);
        int[][] after = {
            {0, 9, 8}, {9, 1, 8}, {1, 9, 3}, {9, 0, 3}, {1, 2, 4}, {2, 0, 4}, {1, 4, 5}, {4, 0, 5}, {1, 5, 6},
            {5, 0, 6}, {1, 6, 7}, {6, 0, 7}, {1, 7, 8}, {7, 0, 8}, {0, 2, 3}, {1, 3, 2}
        };
        nine().due(9, "splitEdge", 0, 1).is(1023, after);
        nine().due(9, "splitEdge", 1, 0).is(1023, after);
    }

    private static void splitEdgeNotJoined() {
        noSuchPair(BoundariesTest::five, 31, FIVE_FACES, BAD, "splitEdge");
        five().due(BAD, "splitEdge", 0, 1).due(BAD, "splitEdge", 1, 0).is(31, FIVE_FACES);
        high().due(BAD, "splitEdge", 0, 1).due(BAD, "splitEdge", 6, 1).due(BAD, "splitEdge", 1, 6)
            .is(960, HIGH_FACES);
    }

    private static void splitEdgeFull() {
        nine().due(9, "splitEdge", 7, 8).due(1023, "vertices");
        Run x = ten();
        for (int[] f : TEN_FACES) {
            x.due(FULL, "splitEdge", f[0], f[1]).due(FULL, "splitEdge", f[1], f[2])
                .due(FULL, "splitEdge", f[2], f[0]);
        }
        x.is(1023, TEN_FACES);
        x.due(9, "collapse", 8, 9).due(9, "splitEdge", 0, 1).due(16, "faces").due(1023, "vertices");
    }

    private static void splitEdgeOrder() {
        noSuchPair(BoundariesTest::ten, 1023, TEN_FACES, BAD, "splitEdge");
    }

    // ---- promise 4 ----

    private static void flipEitherEnd() {
        int[][] after = {{0, 4, 2}, {4, 1, 2}, {1, 4, 3}, {4, 0, 3}, {0, 2, 1}, {1, 3, 0}};
        five().due(0, "flip", 2, 3).is(31, after);
        five().due(0, "flip", 3, 2).is(31, after);
        five().due(0, "flip", 2, 3).due(0, "flip", 0, 1).is(31, FIVE_FACES);
        five().due(0, "flip", 2, 3).due(0, "flip", 1, 0).is(31, FIVE_FACES);
        // Ten vertices are no hindrance: a turned edge needs no new number.
        ten().due(0, "flip", 0, 1).due(0, "opposite", 3, 9).due(1, "opposite", 9, 3).due(BAD, "opposite", 0, 1)
            .due(16, "faces").due(0, "flip", 9, 3).is(1023, TEN_FACES);
    }

    private static void flipNotJoined() {
        noSuchPair(BoundariesTest::five, 31, FIVE_FACES, BAD, "flip");
        noSuchPair(BoundariesTest::ten, 1023, TEN_FACES, BAD, "flip");
        five().due(0, "flip", 2, 3).due(BAD, "flip", 2, 3).due(BAD, "flip", 3, 2).due(1, "isFace", 0, 2, 1);
        high().due(BAD, "flip", 0, 1).due(BAD, "flip", 6, 1).due(BAD, "flip", 1, 6).is(960, HIGH_FACES);
    }

    private static void flipRefused() {
        Run x = new Run();
        Run y = high();
        for (int i = 0; i < 4; i++) {
            x.due(REFUSED, "flip", i, (i + 1) % 4).due(REFUSED, "flip", (i + 1) % 4, i)
                .due(REFUSED, "flip", i, (i + 2) % 4);
            y.due(REFUSED, "flip", 6 + i, 6 + (i + 1) % 4).due(REFUSED, "flip", 6 + (i + 1) % 4, 6 + i)
                .due(REFUSED, "flip", 6 + i, 6 + (i + 2) % 4);
        }
        x.is(15, FOUR_FACES);
        y.is(960, HIGH_FACES);
        Run z = five();
        for (int ring = 2; ring < 5; ring++) {
            z.due(REFUSED, "flip", 0, ring).due(REFUSED, "flip", ring, 0).due(REFUSED, "flip", 1, ring)
                .due(REFUSED, "flip", ring, 1);
        }
        z.is(31, FIVE_FACES);
        // The edge between 0 and 1, opposite these, may lie in other faces than those of the turned edge.
        ten().due(REFUSED, "flip", 8, 9).due(REFUSED, "flip", 4, 5).due(REFUSED, "flip", 3, 2).is(1023, TEN_FACES);
    }

    private static void flipSameOpposites() {
        for (String state : everySmallSurface()) {
            checkOpposites(numbers(state));
        }
        for (Supplier<Run> maker : makers()) {
            checkOpposites(numbers(maker.get().state()));
        }
    }

    private static void checkOpposites(int[] s) {
        for (int a = 0; a < 10; a++) {
            for (int b = 0; b < a; b++) {
                int c = s[2 + 10 * a + b];
                int d = s[2 + 10 * b + a];
                expect("c = d at " + a + " and " + b, c != BAD && c == d ? 1 : 0, 0);
            }
        }
    }

    private static void flipOrder() {
        // With four vertices every edge is refused, and still what is no edge is BAD.
        noSuchPair(Run::new, 15, FOUR_FACES, BAD, "flip");
        noSuchPair(BoundariesTest::high, 960, HIGH_FACES, BAD, "flip");
    }

    // ---- promise 5 ----

    private static void collapseTakesThePlace() {
        five().due(4, "collapse", 0, 4).is(15, FOUR_FACES);
        five().due(4, "collapse", 4, 0).is(30, new int[][] {{4, 1, 2}, {4, 2, 3}, {4, 3, 1}, {1, 3, 2}});
        ten().due(9, "collapse", 8, 9).is(511, NINE_FACES);
        ten().due(9, "collapse", 9, 0).is(1022, new int[][] {
            {1, 2, 4}, {2, 9, 4}, {1, 4, 5}, {4, 9, 5}, {1, 5, 6}, {5, 9, 6}, {1, 6, 7}, {6, 9, 7},
            {1, 7, 8}, {7, 9, 8}, {1, 8, 9}, {9, 2, 3}, {9, 3, 1}, {1, 3, 2}
        });
        high().is(960, HIGH_FACES);
    }

    private static void collapseGone() {
        Run x = ten().due(9, "collapse", 9, 0).due(1022, "vertices").due(0, "joined", 0).due(0, "distance", 9, 9)
            .due(BAD, "distance", 0, 0).due(BAD, "distance", 9, 0).due(0, "isFace", 0, 1, 9).due(0, "ofDegree", 0);
        for (int v = 0; v < 10; v++) {
            x.due(BAD, "opposite", 0, v).due(BAD, "opposite", v, 0).due(BAD, "around", v, 0, 0)
                .due(BAD, "splitEdge", 0, v).due(BAD, "flip", v, 0).due(BAD, "collapse", 0, v)
                .due(BAD, "collapse", v, 0);
        }
        x.due(0, "splitFace", 1, 2, 4).due(22, "joined", 0).due(1023, "vertices");
        Run y = ten().due(9, "collapse", 8, 9).due(0, "joined", 9).due(BAD, "distance", 9, 9);
        y.due(BAD, "collapse", 8, 9).due(9, "splitEdge", 2, 3).due(15, "joined", 9);
    }

    private static void collapseCounts() {
        Run x = ten();
        for (int v = 9; v > 3; v--) {
            x.due(v, "collapse", v == 4 ? 2 : v - 1, v).due((1 << v) - 1, "vertices").due(2 * v - 4, "faces");
        }
        x.due(REFUSED, "collapse", 2, 3).is(15, FOUR_FACES);
    }

    private static void collapseNotJoined() {
        noSuchPair(BoundariesTest::six, 63, SIX_FACES, BAD, "collapse");
        noSuchPair(BoundariesTest::ten, 1023, TEN_FACES, BAD, "collapse");
    }

    private static void collapseOnlyFour() {
        Run x = new Run();
        Run y = high();
        Run z = five().due(4, "collapse", 4, 0);
        int[] left = {1, 2, 3, 4};
        for (int i = 0; i < 4; i++) {
            for (int j = 0; j < 4; j++) {
                if (i != j) {
                    x.due(REFUSED, "collapse", i, j);
                    y.due(REFUSED, "collapse", 6 + i, 6 + j);
                    z.due(REFUSED, "collapse", left[i], left[j]);
                }
            }
        }
        x.is(15, FOUR_FACES);
        y.is(960, HIGH_FACES);
        z.is(30, new int[][] {{4, 1, 2}, {4, 2, 3}, {4, 3, 1}, {1, 3, 2}});
        five().due(4, "collapse", 2, 0).due(REFUSED, "collapse", 2, 1).due(30, "vertices");
    }

    private static void collapseMoreThanTwo() {
        // Of five: the edges of the ring 2, 3, 4 have three vertices joined to both ends, the others two.
        Run x = five();
        for (int[] edge : new int[][] {{2, 3}, {3, 2}, {3, 4}, {4, 3}, {2, 4}, {4, 2}}) {
            x.due(REFUSED, "collapse", edge[0], edge[1]);
        }
        x.is(31, FIVE_FACES);
        for (int end = 0; end < 2; end++) {
            for (int ring = 2; ring < 5; ring++) {
                five().due(4, "collapse", end, ring).due(31 & ~(1 << ring), "vertices").due(4, "faces");
                five().due(4, "collapse", ring, end).due(31 & ~(1 << end), "vertices").due(4, "faces");
            }
        }
        // Of ten: eight vertices are joined to both 0 and 1, three to both ends of an edge from there into the row.
        ten().due(REFUSED, "collapse", 0, 1).due(REFUSED, "collapse", 1, 0).due(REFUSED, "collapse", 0, 2)
            .due(REFUSED, "collapse", 5, 1).due(REFUSED, "collapse", 8, 0).is(1023, TEN_FACES);
        ten().due(9, "collapse", 4, 5).due(991, "vertices").due(14, "faces");
        ten().due(9, "collapse", 0, 9).due(511, "vertices").due(14, "faces");
    }

    private static void collapseOrder() {
        // With four vertices every edge is refused, and still what is no edge is BAD.
        noSuchPair(Run::new, 15, FOUR_FACES, BAD, "collapse");
        noSuchPair(BoundariesTest::high, 960, HIGH_FACES, BAD, "collapse");
        // 2, 3 and 4 are joined to both 0 and 1, which are not joined.
        five().due(BAD, "collapse", 0, 1).due(BAD, "collapse", 1, 0).is(31, FIVE_FACES);
    }

    // ---- promises 6 to 10 ----

    private static void verticesBits() {
        new Run().due(15, "vertices").due(REFUSED, "flip", 0, 1).due(BAD, "splitEdge", 0, 9).due(15, "vertices");
        nine().due(511, "vertices");
        ten().due(1023, "vertices").due(FULL, "splitEdge", 0, 1).due(1023, "vertices");
        ten().due(9, "collapse", 9, 0).due(1022, "vertices");
        lowGone().due(963, "vertices");
        high().due(960, "vertices");
    }

    private static void facesEnds() {
        new Run().due(4, "faces").due(REFUSED, "collapse", 0, 1).due(4, "faces");
        five().due(6, "faces").due(0, "flip", 2, 3).due(6, "faces").due(BAD, "splitFace", 0, 2, 3).due(6, "faces");
        nine().due(14, "faces");
        ten().due(16, "faces").due(FULL, "splitFace", 0, 1, 9).due(16, "faces").due(9, "collapse", 0, 9)
            .due(14, "faces");
        high().due(4, "faces");
    }

    private static void isFaceOfNothingElse() {
        noSuchTriple(Run::new, 15, FOUR_FACES, 0, "isFace");
        noSuchTriple(BoundariesTest::five, 31, FIVE_FACES, 0, "isFace");
        noSuchTriple(BoundariesTest::high, 960, HIGH_FACES, 0, "isFace");
        Run x = ten();
        for (int[] f : TEN_FACES) {
            x.due(1, "isFace", f[0], f[1], f[2]).due(1, "isFace", f[1], f[2], f[0])
                .due(1, "isFace", f[2], f[0], f[1]).due(0, "isFace", f[1], f[0], f[2]);
        }
        // 0, 1 and 2 are joined to one another, but their face has been cut.
        new Run().due(1, "isFace", 0, 1, 2).due(4, "splitFace", 0, 1, 2).due(0, "isFace", 0, 1, 2)
            .due(0, "isFace", 0, 2, 1);
        // A missing arrow must not be taken for one that has the vertex -1.
        new Run().due(0, "isFace", 0, 0, BAD).due(0, "isFace", 4, 5, BAD).due(0, "isFace", BAD, BAD, BAD)
            .due(0, "isFace", BAD, 0, 0).due(0, "isFace", 0, BAD, 0);
    }

    private static void joinedEnds() {
        new Run().due(14, "joined", 0).due(7, "joined", 3);
        ten().due(1022, "joined", 0).due(1021, "joined", 1).due(7, "joined", 3).due(259, "joined", 9);
        high().due(896, "joined", 6).due(448, "joined", 9);
    }

    private static void joinedOfNoVertex() {
        Run x = new Run();
        Run y = high();
        for (int v = 4; v < 10; v++) {
            x.due(0, "joined", v);
        }
        for (int v = 0; v < 6; v++) {
            y.due(0, "joined", v);
        }
        for (int n : OUTSIDE) {
            x.due(0, "joined", n);
            y.due(0, "joined", n);
        }
    }

    private static void oppositeEachArrow() {
        Run x = ten();
        for (int[] f : TEN_FACES) {
            x.due(f[2], "opposite", f[0], f[1]).due(f[0], "opposite", f[1], f[2]).due(f[1], "opposite", f[2], f[0]);
        }
        new Run().due(2, "opposite", 0, 1).due(3, "opposite", 1, 0).due(0, "opposite", 1, 2);
    }

    private static void oppositeNotJoined() {
        noSuchPair(Run::new, 15, FOUR_FACES, BAD, "opposite");
        noSuchPair(BoundariesTest::five, 31, FIVE_FACES, BAD, "opposite");
        noSuchPair(BoundariesTest::ten, 1023, TEN_FACES, BAD, "opposite");
        noSuchPair(BoundariesTest::high, 960, HIGH_FACES, BAD, "opposite");
    }

    // ---- promise 11 ----

    private static void aroundAfter() {
        checkRings(1, 20);
    }

    private static void aroundBefore() {
        checkRings(-20, -1);
    }

    private static void aroundNoStep() {
        checkRings(0, 0);
    }

    private static void checkRings(int least, int most) {
        checkRing(Run::new, least, most, 3, 0, 2, 1);
        checkRing(BoundariesTest::five, least, most, 0, 2, 3, 4);
        checkRing(BoundariesTest::five, least, most, 2, 3, 0, 4, 1);
        checkRing(BoundariesTest::ten, least, most, 0, 1, 9, 8, 7, 6, 5, 4, 2, 3);
        checkRing(BoundariesTest::ten, least, most, 1, 0, 3, 2, 4, 5, 6, 7, 8, 9);
        checkRing(BoundariesTest::high, least, most, 9, 7, 6, 8);
    }

    private static void checkRing(Supplier<Run> maker, int least, int most, int a, int... ring) {
        Run x = maker.get();
        for (int start = 0; start < ring.length; start++) {
            for (int k = least; k <= most; k++) {
                x.due(ring[Math.floorMod(start + k, ring.length)], "around", a, ring[start], k);
            }
        }
    }

    private static void aroundNotJoined() {
        for (int k : new int[] {0, 1, -1, 20, -20}) {
            noSuchPair(BoundariesTest::five, 31, FIVE_FACES, BAD, "around", k);
        }
        noSuchPair(BoundariesTest::high, 960, HIGH_FACES, BAD, "around", 0);
        noSuchPair(BoundariesTest::ten, 1023, TEN_FACES, BAD, "around", 2);
    }

    private static void aroundTooFar() {
        int[] far = {
            21, 22, 23, 24, 27, 36, 100, 1 << 20, Integer.MAX_VALUE, Integer.MAX_VALUE - 1,
            -21, -22, -23, -24, -27, -36, -100, -(1 << 20), Integer.MIN_VALUE, Integer.MIN_VALUE + 1,
            Integer.MIN_VALUE + 20
        };
        for (int k : far) {
            new Run().due(BAD, "around", 0, 1, k).is(15, FOUR_FACES);
            five().due(BAD, "around", 0, 2, k).due(BAD, "around", 2, 3, k).due(BAD, "around", 0, 1, k)
                .due(BAD, "around", 7, 8, k).is(31, FIVE_FACES);
            ten().due(BAD, "around", 0, 1, k).due(BAD, "around", 9, 8, k).due(BAD, "around", 10, -1, k)
                .is(1023, TEN_FACES);
        }
        new Run().due(3, "around", 0, 1, 20).due(BAD, "around", 0, 1, 21).due(2, "around", 0, 1, -20)
            .due(BAD, "around", 0, 1, -21);
    }

    // ---- promises 12 and 13 ----

    private static void distanceEnds() {
        Run x = layers();
        int[][] layer = {{3}, {0, 1, 2}, {5, 6, 7}, {4}};
        for (int i = 0; i < 4; i++) {
            for (int v : layer[i]) {
                x.due(i, "distance", 3, v).due(i, "distance", v, 3).due(3 - i, "distance", 4, v)
                    .due(3 - i, "distance", v, 4).due(0, "distance", v, v);
            }
        }
        Run y = ten();
        Run z = high();
        for (int v = 0; v < 10; v++) {
            y.due(0, "distance", v, v).due(v == 0 ? 0 : 1, "distance", 0, v).due(v == 1 ? 0 : 1, "distance", v, 1);
            z.due(v < 6 ? BAD : v == 9 ? 0 : 1, "distance", 9, v);
        }
        y.due(2, "distance", 3, 9).due(2, "distance", 9, 3).due(1, "distance", 3, 2);
    }

    private static void distanceOfNoVertex() {
        for (int a : everyNumber()) {
            Run x = five();
            Run y = high();
            for (int b : everyNumber()) {
                if (a < 0 || a > 4 || b < 0 || b > 4) {
                    x.due(BAD, "distance", a, b);
                }
                if (a < 6 || a > 9 || b < 6 || b > 9) {
                    y.due(BAD, "distance", a, b);
                }
            }
        }
    }

    private static void ofDegreeEnds() {
        new Run().due(0, "ofDegree", 2).due(4, "ofDegree", 3).due(0, "ofDegree", 4);
        Run x = ten();
        int[] want = {0, 0, 0, 2, 6, 0, 0, 0, 0, 2};
        for (int n = 0; n < 10; n++) {
            x.due(want[n], "ofDegree", n);
        }
        for (int n : OUTSIDE) {
            x.due(0, "ofDegree", n);
        }
        six().due(0, "ofDegree", 3).due(6, "ofDegree", 4).due(0, "ofDegree", 5);
    }

    private static void ofDegreeOfVertices() {
        new Run().due(0, "ofDegree", 0);
        high().due(0, "ofDegree", 0).due(4, "ofDegree", 3);
        ten().due(9, "collapse", 0, 9).due(0, "ofDegree", 0).due(2, "ofDegree", 3).due(2, "ofDegree", 8)
            .due(0, "ofDegree", 9);
    }

    // ---- promises 14 and 15 ----

    private static void flippableEnds() {
        new Run().due(0, "flippable");
        high().due(0, "flippable");
        five().due(3, "flippable");
        six().due(12, "flippable");
        ten().due(13, "flippable");
    }

    private static void flippableCounts() {
        for (Supplier<Run> maker : makers()) {
            int count = 0;
            for (int a = -1; a <= 10; a++) {
                for (int b = -1; b < a; b++) {
                    long there = maker.get().ask("flip", a, b);
                    expect("flip(" + b + ", " + a + ") as from the other end", maker.get().ask("flip", b, a), there);
                    count += there == 0 ? 1 : 0;
                }
            }
            maker.get().due(count, "flippable");
        }
    }

    private static void collapsibleEnds() {
        new Run().due(0, "collapsible");
        high().due(0, "collapsible");
        five().due(12, "collapsible");
        six().due(24, "collapsible");
        ten().due(22, "collapsible");
    }

    private static void collapsibleCounts() {
        for (Supplier<Run> maker : makers()) {
            int count = 0;
            for (int a = -1; a <= 10; a++) {
                for (int b = -1; b <= 10; b++) {
                    count += maker.get().ask("collapse", a, b) >= 0 ? 1 : 0;
                }
            }
            maker.get().due(count, "collapsible");
        }
    }

    private static void askingChangesNothing() {
        for (Supplier<Run> maker : makers()) {
            Run x = maker.get();
            for (int i = 4; i < METHODS.length; i++) {
                for (int v = -1; v <= 10; v++) {
                    x.ask(METHODS[i], v, 9 - v, 3 * v);
                }
            }
            sameState("what was only asked", x.state(), maker.get().state());
        }
    }

    // ---- the rules of LANGUAGE.md that hold at every boundary ----

    private static void anyArguments() {
        for (Supplier<Run> maker : makers()) {
            for (String method : METHODS) {
                for (int a : everyNumber()) {
                    for (int b : everyNumber()) {
                        Run x = maker.get();
                        for (int c : everyNumber()) {
                            long got = x.ask(method, a, b, c);
                            expect(method + " within its answers", got >= REFUSED && got <= 1023 ? 1 : 0, 1);
                        }
                    }
                }
            }
        }
    }

    private static void afterTheLastCall() {
        SurfaceMesh x = new SurfaceMesh();
        int[] given = everyNumber();
        long seed = 1;
        for (int i = 0; i < 100000; i++) {
            seed = seed * 6364136223846793005L + 1442695040888963407L;
            int r = (int) (seed >>> 33);
            // Mostly small numbers, so that the surface goes on changing.
            int length = i % 5 == 0 ? given.length : 10;
            int a = given[r % length];
            int b = given[r / 40 % length];
            int c = given[r / 1600 % length];
            call(x, METHODS[r / 64000 % METHODS.length], a, b, c);
        }
    }

    // ---- helpers ----

    private static List<Supplier<Run>> makers() {
        return List.of(Run::new, BoundariesTest::five, BoundariesTest::six, BoundariesTest::nine,
            BoundariesTest::ten, BoundariesTest::lowGone, BoundariesTest::high, BoundariesTest::layers);
    }

    /** The numbers of vertices first, then those that no vertex can have. */
    private static int[] everyNumber() {
        int[] all = new int[10 + OUTSIDE.length];
        for (int v = 0; v < 10; v++) {
            all[v] = v;
        }
        System.arraycopy(OUTSIDE, 0, all, 10, OUTSIDE.length);
        return all;
    }

    /** Each triple that is none of the faces, turned as you like, is answered as told and changes nothing. */
    private static void noSuchTriple(Supplier<Run> maker, int vertices, int[][] faces, long want, String method) {
        for (int a : everyNumber()) {
            for (int b : everyNumber()) {
                Run x = maker.get();
                for (int c : everyNumber()) {
                    if (third(faces, a, b) == BAD || third(faces, a, b) != c) {
                        x.due(want, method, a, b, c);
                    }
                }
                x.is(vertices, faces);
            }
        }
    }

    /** Each pair that no face has as an arrow is answered as told and changes nothing. */
    private static void noSuchPair(
            Supplier<Run> maker, int vertices, int[][] faces, long want, String method, int... more) {
        for (int a : everyNumber()) {
            Run x = maker.get();
            for (int b : everyNumber()) {
                if (third(faces, a, b) == BAD) {
                    x.due(want, method, a, b, more.length == 0 ? 0 : more[0]);
                }
            }
            x.is(vertices, faces);
        }
    }

    private static int third(int[][] faces, int a, int b) {
        for (int[] f : faces) {
            for (int i = 0; i < 3; i++) {
                if (f[i] == a && f[(i + 1) % 3] == b) {
                    return f[(i + 2) % 3];
                }
            }
        }
        return BAD;
    }

    /** Every surface that can be reached without ever having more than six vertices. */
    private static List<String> everySmallSurface() {
        // Four, five and six vertices can be joined in 1, 10 and 195 ways, each of them with two sides, and
        // there are 15, 6 and 1 ways to take so many of the numbers 0 .. 5.
        int due = 2 * (15 * 1 + 6 * 10 + 1 * 195);
        List<String> found = new ArrayList<>();
        HashSet<String> known = new HashSet<>();
        ArrayDeque<List<int[]>> ways = new ArrayDeque<>();
        ways.add(List.of());
        known.add(new Run().state());
        // A broken surface may have no end of others behind it.
        while (!ways.isEmpty() && known.size() <= due) {
            List<int[]> way = ways.remove();
            String state = walked(way).state();
            found.add(state);
            for (int[] step : steps(numbers(state))) {
                List<int[]> longer = new ArrayList<>(way);
                longer.add(step);
                if (known.add(walked(longer).state())) {
                    ways.add(longer);
                }
            }
        }
        expect("small surfaces", known.size(), due);
        return found;
    }

    private static Run walked(List<int[]> way) {
        Run x = new Run();
        for (int[] step : way) {
            x.ask(METHODS[step[0]], step[1], step[2], step[3]);
        }
        return x;
    }

    private static List<int[]> steps(int[] state) {
        List<int[]> steps = new ArrayList<>();
        int first = Integer.bitCount(state[0]) < 6 ? 0 : 2;
        for (int method = first; method < 4; method++) {
            for (int a = 0; a < 10; a++) {
                for (int b = 0; b < 10; b++) {
                    if (state[2 + 10 * a + b] != BAD) {
                        steps.add(new int[] {method, a, b, state[2 + 10 * a + b]});
                    }
                }
            }
        }
        return steps;
    }

    private static int[] numbers(String state) {
        String[] words = state.split(" ");
        int[] all = new int[words.length];
        for (int i = 0; i < all.length; i++) {
            all[i] = Integer.parseInt(words[i]);
        }
        return all;
    }

    private static void test(String words, Runnable check) {
        sentence = words;
        wrongHere = 0;
        try {
            check.run();
        } catch (RuntimeException | Error e) {
            fault("threw " + e);
        }
    }

    private static void expect(String what, long got, long want) {
        if (got != want) {
            fault(what + ": " + got + ", due is " + want);
        }
    }

    private static void sameState(String what, String got, String want) {
        if (!got.equals(want)) {
            fault(what + ": the state is " + got + ", due is " + want);
        }
    }

    /** A few faults tell enough of a sentence. */
    private static void fault(String text) {
        wrong++;
        wrongHere++;
        if (wrongHere <= 5) {
            System.out.println("[" + sentence + "] " + text);
        }
    }

    /** A boolean counts 1 or 0; a method takes of the arguments as many as it has parameters. */
    private static long call(SurfaceMesh x, String method, int... p) {
        switch (method) {
            case "splitFace": return x.splitFace(p[0], p[1], p[2]);
            case "splitEdge": return x.splitEdge(p[0], p[1]);
            case "flip": return x.flip(p[0], p[1]);
            case "collapse": return x.collapse(p[0], p[1]);
            case "vertices": return x.vertices();
            case "faces": return x.faces();
            case "isFace": return x.isFace(p[0], p[1], p[2]) ? 1 : 0;
            case "joined": return x.joined(p[0]);
            case "opposite": return x.opposite(p[0], p[1]);
            case "around": return x.around(p[0], p[1], p[2]);
            case "distance": return x.distance(p[0], p[1]);
            case "ofDegree": return x.ofDegree(p[0]);
            case "flippable": return x.flippable();
            case "collapsible": return x.collapsible();
            default: throw new IllegalArgumentException(method);
        }
    }

    /** One object and what has been done with it, so that a wrong answer is told with the calls before it. */
    private static final class Run {
        private final SurfaceMesh x = new SurfaceMesh();
        private final StringBuilder done = new StringBuilder();
        private int calls = 0;

        long ask(String method, int... p) {
            // What is answered after the 512th call is free, so no test may rest on it.
            if (calls == MOST_CALLS) {
                throw new IllegalStateException("the test itself makes more than 512 calls on one object");
            }
            calls++;
            return call(x, method, p);
        }

        Run due(long want, String method, int... p) {
            long got = ask(method, p);
            String text = Arrays.toString(p);
            String told = method + "(" + text.substring(1, text.length() - 1) + ")";
            if (got != want) {
                fault(told + " answered " + got + ", due is " + want + "; done before: " + done);
            }
            if (got >= 0 && (method.startsWith("split") || method.equals("flip") || method.equals("collapse"))) {
                done.append(told).append(' ');
            }
            return this;
        }

        /** vertices(), faces(), and the vertex opposite each arrow: with these the surface is told whole. */
        String state() {
            StringBuilder text = new StringBuilder();
            text.append(ask("vertices")).append(' ').append(ask("faces"));
            for (int a = 0; a < 10; a++) {
                for (int b = 0; b < 10; b++) {
                    text.append(' ').append(ask("opposite", a, b));
                }
            }
            return text.toString();
        }

        Run is(int vertices, int[][] faces) {
            StringBuilder text = new StringBuilder();
            text.append(vertices).append(' ').append(faces.length);
            for (int a = 0; a < 10; a++) {
                for (int b = 0; b < 10; b++) {
                    text.append(' ').append(third(faces, a, b));
                }
            }
            sameState("after " + done, state(), text.toString());
            return this;
        }

        void madeAllCalls() {
            expect("calls made", calls, MOST_CALLS);
        }
    }
}
