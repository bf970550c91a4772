import java.util.ArrayList;
import java.util.Arrays;
import java.util.List;
import java.util.TreeSet;

/**
 * A test for each sentence of the document that names a boundary case: too small, too large, empty,
 * full, a wrap-around, a refused call. Each names its promise, and says the sentence.
 */
public final class BoundaryTest {
    private static final int BAD = -1, STATE = -2, NO = -3, FULL = -4, NONE = -9, NOWHERE = -1000;
    private static final int MOST_CALLS = 512;

    /** Far outside; some come back inside if bits are cut off, or if a product with 4, 6 or 22 wraps around. */
    private static final int[] WILD = {Integer.MIN_VALUE, Integer.MIN_VALUE + 1, -65536, -1000, -256, 256, 1000,
            65536, 195225787, 715827883, 1 << 30, Integer.MAX_VALUE - 1, Integer.MAX_VALUE};

    private static final int[] ONE = {2, 2, 2};
    private static final int[] TWO = {2, 2, 2, 2, 2, 3};
    private static final int[] ROW_OF_THREE = {0, 0, 0, 1, 0, 0, 2, 0, 0};
    private static final int[] CORNER = {1, 1, 1, 2, 1, 1, 2, 2, 1};
    /** The corner again, its middle cube the first. */
    private static final int[] BENT = {2, 2, 2, 3, 2, 2, 2, 3, 2};
    private static final int[] SQUARE = {0, 0, 0, 1, 0, 0, 1, 1, 0, 0, 1, 0};
    private static final int[] ROW_OF_FIVE = {0, 0, 0, 1, 0, 0, 2, 0, 0, 3, 0, 0, 4, 0, 0};
    private static final int[] CROSS = {2, 2, 2, 3, 2, 2, 1, 2, 2, 2, 3, 2, 2, 1, 2};
    /** Its first and its last cube meet in an edge alone. */
    private static final int[] RING = {1, 1, 1, 1, 1, 2, 1, 2, 2, 2, 2, 2, 2, 2, 1};
    /** Five faces meet where it is hollow: a walk around comes upon the place where it began. */
    private static final int[] OVER_FIRST = {2, 2, 2, 2, 2, 1, 1, 2, 1, 2, 3, 1, 1, 3, 1};
    private static final int[] OVER_LAST = {2, 2, 2, 3, 2, 2, 3, 2, 3, 3, 2, 4, 2, 2, 4};
    private static final int[] TOWER = {0, 4, 0, 0, 4, 1, 0, 3, 1, 1, 3, 1, 0, 3, 0};
    private static final int[][] SOLIDS = {ONE, TWO, ROW_OF_THREE, CORNER, BENT, SQUARE, ROW_OF_FIVE, CROSS,
            RING, OVER_FIRST, OVER_LAST, TOWER};

    private static String asked = "";
    private static int wrong = 0;

    public static void main(String[] args) {
        test(BoundaryTest::constants);
        test(BoundaryTest::calls);
        termsOfSolids();
        termsOfPaper();
        termsOfTheSearch();
        termsOfShapes();
        termsOfRefusals();
        promises1To4();
        promises5To7();
        promises8To10();
        promises11And12();
        promises13To16();
        System.out.println(wrong == 0 ? "all answers are as due" : wrong + " answers are not as due");
        if (wrong != 0) {
            System.exit(1);
        }
    }

    /** No call may throw; if one does, the other tests go on. */
    private static void test(Runnable one) {
        try {
            one.run();
        } catch (RuntimeException thrown) {
            wrong++;
            System.out.println(asked + ": " + thrown);
        }
    }

    /** What follows is asked by this sentence of the document. */
    private static void sentence(String where, String words) {
        asked = where + ", \"" + words + "\"";
    }

    private static void due(String call, long got, long want) {
        if (got != want) {
            wrong++;
            System.out.println(asked + ": " + call + " answered " + got + ", due is " + want);
        }
    }

    private static void isTrue(String what, boolean holds) {
        due(what, holds ? 1 : 0, 1);
    }

    // ---- objects

    /** An object with its calls counted: beyond 512 its answers are free, so that no test may rest on them. */
    private static final class Used {
        private final NetSearch object = new NetSearch();
        private int calls;

        NetSearch on() {
            calls++;
            if (calls > MOST_CALLS) {
                throw new IllegalStateException("the test itself calls an object too often");
            }
            return object;
        }
    }

    private static Used solid(int... places) {
        Used made = new Used();
        build(made, places);
        return made;
    }

    private static void build(Used x, int... places) {
        for (int i = 0; i < places.length; i += 3) {
            isTrue("a cube of " + Arrays.toString(places), x.on().cube(places[i], places[i + 1], places[i + 2]) > 0);
        }
    }

    private static void change(Used x, int... places) {
        x.on().clear();
        build(x, places);
    }

    private static Used searched(int work, int... places) {
        Used x = solid(places);
        for (int left = work; left > 0; left -= 500) {
            x.on().run(Math.min(500, left));
        }
        return x;
    }

    /** A face is laid, and from each face the next one is grown; the last one's answer. */
    private static int walk(Used x, int first, int... sides) {
        int at = first;
        x.on().lay(first);
        for (int side : sides) {
            at = at >= 0 ? x.on().grow(at, side) : at;
        }
        return at;
    }

    private static int[] row(Used x, int i) {
        int[] row = new int[Math.max(0, x.on().size(i))];
        for (int k = 0; k < row.length; k++) {
            row[k] = 32 * x.on().shape(i, k, 1) + x.on().shape(i, k, 0);
        }
        return row;
    }

    private static void lies(Used x, int f, int... want) {
        for (int what = 0; what < want.length; what++) {
            due("paper(" + f + ", " + what + ")", x.on().paper(f, what), want[what]);
        }
    }

    private static void told(Used x, int... want) {
        for (int what = 0; what < want.length; what++) {
            due("told(" + what + ")", x.on().told(what), want[what]);
        }
    }

    /** A solid by the document's words, from its cubes alone. */
    private static final class Plan {
        private static final int[][] STEP = {{1, 0, 0}, {-1, 0, 0}, {0, 1, 0}, {0, -1, 0}, {0, 0, 1}, {0, 0, -1}};
        private static final int RIDGE = 0, HOLLOW = 1, FLAT = 2;

        final int[] places;
        final List<int[]> faces = new ArrayList<>();

        Plan(int... places) {
            this.places = places;
            for (int c = 0; c < places.length / 3; c++) {
                for (int d = 0; d < 6; d++) {
                    if (cubeFrom(c, STEP[d]) < 0) {
                        faces.add(new int[] {c, d});
                    }
                }
            }
        }

        private int cubeFrom(int c, int[] step) {
            for (int i = 0; i < places.length; i += 3) {
                if (places[i] == places[3 * c] + step[0] && places[i + 1] == places[3 * c + 1] + step[1]
                        && places[i + 2] == places[3 * c + 2] + step[2]) {
                    return i / 3;
                }
            }
            return -1;
        }

        private int faceOf(int c, int d) {
            for (int f = 0; f < faces.size(); f++) {
                if (faces.get(f)[0] == c && faces.get(f)[1] == d) {
                    return f;
                }
            }
            return -1;
        }

        private int inCorner(int f, int e) {
            int[] one = STEP[faces.get(f)[1]];
            int[] other = STEP[e];
            return cubeFrom(faces.get(f)[0], new int[] {one[0] + other[0], one[1] + other[1], one[2] + other[2]});
        }

        int kind(int f, int e) {
            if (inCorner(f, e) >= 0) {
                return HOLLOW;
            }
            return cubeFrom(faces.get(f)[0], STEP[e]) >= 0 ? FLAT : RIDGE;
        }

        int across(int f, int e) {
            int c = faces.get(f)[0];
            int d = faces.get(f)[1];
            switch (kind(f, e)) {
                case HOLLOW: return faceOf(inCorner(f, e), e ^ 1);
                case FLAT: return faceOf(cubeFrom(c, STEP[e]), d);
                default: return faceOf(c, e);
            }
        }

        int leadsOn(int f, int e) {
            int d = faces.get(f)[1];
            switch (kind(f, e)) {
                case HOLLOW: return d;
                case FLAT: return e;
                default: return d ^ 1;
            }
        }
    }

    // ---- what it is, the public face

    private static void constants() {
        sentence("The public face", "public static final int BAD = -1, STATE = -2, NO = -3, FULL = -4, NONE = -9;");
        due("BAD", NetSearch.BAD, BAD);
        due("STATE", NetSearch.STATE, STATE);
        due("NO", NetSearch.NO, NO);
        due("FULL", NetSearch.FULL, FULL);
        due("NONE", NetSearch.NONE, NONE);
    }

    private static void calls() {
        sentence("What it is", "An object is used for at most 512 calls after it has been made;"
                + " what later calls answer is free.");
        Used busy = solid(ROW_OF_FIVE);
        for (int i = 0; i < 506; i++) {
            isTrue("run(500), call " + (6 + i), busy.on().run(500) > 0);
        }
        due("told(4), call 512", busy.on().told(4), 506 * 500);
        Used refused = solid(ONE);
        for (int i = 0; i < 510; i++) {
            due("cube(2, 2, 2), call " + (2 + i), refused.on().cube(2, 2, 2), NO);
        }
        due("cube(2, 2, 3), call 512", refused.on().cube(2, 2, 3), 10);
    }

    // ---- terms: solids

    private static void termsOfSolids() {
        test(BoundaryTest::fiveCubesAtMost);
        test(BoundaryTest::firstCubeAnywhere);
        test(BoundaryTest::otherCubesBeside);
        test(BoundaryTest::directions);
        test(BoundaryTest::facesWhereNoCubeLies);
        test(BoundaryTest::numbersOfFaces);
        test(BoundaryTest::hollowFlatRidge);
    }

    private static void sentenceOfCubes() {
        sentence("Terms (promise 2)", "CUBES (5 at most) lie at x, y, z, each 0 .. 4;"
                + " the first one anywhere, others beside one that is there.");
    }

    private static void fiveCubesAtMost() {
        sentenceOfCubes();
        for (int along = 0; along < 3; along++) {
            Used x = new Used();
            for (int i = 0; i < 5; i++) {
                int[] at = {1, 1, 1};
                at[along] = i;
                due("cube number " + i, x.on().cube(at[0], at[1], at[2]), 6 + 4 * i);
            }
            int[] sixth = {1, 1, 1};
            sixth[(along + 1) % 3] = 2;
            due("the sixth", x.on().cube(sixth[0], sixth[1], sixth[2]), FULL);
            due("told(0)", x.on().told(0), 5);
        }
    }

    private static void firstCubeAnywhere() {
        sentenceOfCubes();
        Used x = new Used();
        for (int i = 0; i < 125; i++) {
            due("the first one at place " + i, x.on().cube(i / 25, i / 5 % 5, i % 5), 6);
            x.on().clear();
        }
        for (int i = 0; i < 343; i++) {
            int px = i / 49 - 1;
            int py = i / 7 % 7 - 1;
            int pz = i % 7 - 1;
            boolean inside = px % 5 == Math.abs(px) && py % 5 == Math.abs(py) && pz % 5 == Math.abs(pz);
            due("the first one at " + px + " " + py + " " + pz, new Used().on().cube(px, py, pz), inside ? 6 : BAD);
        }
    }

    private static void otherCubesBeside() {
        sentenceOfCubes();
        int[] firsts = {0, 0, 0, 0, 0, 4, 0, 4, 0, 0, 4, 4, 4, 0, 0, 4, 0, 4, 4, 4, 0, 4, 4, 4, 2, 2, 2, 0, 2, 4};
        for (int at = 0; at < firsts.length; at += 3) {
            for (int i = 0; i < 125; i++) {
                Used x = solid(firsts[at], firsts[at + 1], firsts[at + 2]);
                int away = Math.abs(i / 25 - firsts[at]) + Math.abs(i / 5 % 5 - firsts[at + 1])
                        + Math.abs(i % 5 - firsts[at + 2]);
                due("the second one at place " + i + ", the first " + firsts[at] + " " + firsts[at + 1] + " "
                        + firsts[at + 2], x.on().cube(i / 25, i / 5 % 5, i % 5), away == 1 ? 10 : NO);
            }
        }
        Used x = solid(0, 0, 0, 1, 0, 0, 2, 0, 0, 3, 0, 0);
        due("beside none of four", x.on().cube(4, 0, 1), NO);
        due("beside the second one alone", x.on().cube(1, 1, 0), 22);
        due("beside the first one alone", solid(0, 0, 0, 1, 0, 0, 2, 0, 0, 3, 0, 0).on().cube(0, 0, 1), 22);
        due("beside the last one alone", solid(0, 0, 0, 1, 0, 0, 2, 0, 0, 3, 0, 0).on().cube(4, 0, 0), 22);
    }

    private static void directions() {
        sentence("Terms (promises 2, 5, 6)", "DIRECTIONS: 0 +x, 1 -x, 2 +y, 3 -y, 4 +z, 5 -z.");
        int[] beside = {3, 2, 2, 1, 2, 2, 2, 3, 2, 2, 1, 2, 2, 2, 3, 2, 2, 1};
        for (int way = 0; way < 6; way++) {
            Used x = solid(2, 2, 2, beside[3 * way], beside[3 * way + 1], beside[3 * way + 2]);
            for (int f = 0; f < 10; f++) {
                int among = f % 5;
                int hidden = f < 5 ? way : way ^ 1;
                due("way " + way + ", face(" + f + ", 1)", x.on().face(f, 1), among < hidden ? among : among + 1);
            }
        }
    }

    private static void facesWhereNoCubeLies() {
        sentence("Terms (promises 2, 5)", "A FACE is a cube and a direction in which no cube lies beside it.");
        due("at the walls of the room", solid(0, 0, 0).on().told(1), 6);
        due("at the other walls", solid(4, 4, 4).on().told(1), 6);
        Used cross = solid(CROSS);
        due("22 is the most", cross.on().told(1), 22);
        due("the middle one has two", cross.on().face(1, 0), 0);
        due("the next one has more", cross.on().face(2, 0), 1);
        due("where a cube joins others on two sides", solid(SQUARE).on().told(1), 16);
        Used five = solid(SQUARE);
        due("a fifth on top of it", five.on().cube(0, 0, 1), 20);
    }

    private static void numbersOfFaces() {
        sentence("Terms (promise 5)", "FACES are numbered from 0 on, by the cubes as they came,"
                + " of a cube by directions.");
        for (int[] places : SOLIDS) {
            Plan plan = new Plan(places);
            Used x = solid(places);
            int n = plan.faces.size();
            due("told(1)", x.on().told(1), n);
            for (int f = 0; f < n; f++) {
                due("face(" + f + ", 0) of " + Arrays.toString(places), x.on().face(f, 0), plan.faces.get(f)[0]);
                due("face(" + f + ", 1) of " + Arrays.toString(places), x.on().face(f, 1), plan.faces.get(f)[1]);
            }
            due("none is number -1", x.on().face(-1, 0), BAD);
            due("none is number " + n, x.on().face(n, 0), BAD);
        }
    }

    private static void hollowFlatRidge() {
        sentence("Terms (promise 6)", "A FACE with a direction d (it looks that way), and another direction e, neither"
                + " d nor its opposite: ACROSS e is: if a cube lies at its cube's place and e and d, the face of that"
                + " one that looks opposite to e (a HOLLOW edge); else, if one lies at its place and e, that one's"
                + " that looks to d (FLAT); else its own cube's that looks to e (a RIDGE).");
        Used corner = solid(CORNER);
        due("HOLLOW, though one lies at its place and e, too", corner.on().across(1, 0), 10);
        due("HOLLOW, back", corner.on().across(10, 3), 1);
        due("FLAT", corner.on().across(3, 0), 7);
        due("RIDGE", corner.on().across(1, 1), 0);
        Used ring = solid(RING);
        due("HOLLOW, none at its place and e", ring.on().across(0, 2), 20);
        due("HOLLOW, none at its place and e, back", ring.on().across(20, 1), 0);
        due("the other two at that edge", ring.on().across(2, 0), 18);
        due("the other two at that edge, back", ring.on().across(18, 3), 2);
        for (int[] places : SOLIDS) {
            Plan plan = new Plan(places);
            Used x = solid(places);
            for (int f = 0; f < plan.faces.size(); f++) {
                for (int e = 0; e < 6; e++) {
                    boolean along = e / 2 != plan.faces.get(f)[1] / 2;
                    due("across(" + f + ", " + e + ") of " + Arrays.toString(places), x.on().across(f, e),
                            along ? plan.across(f, e) : BAD);
                }
            }
        }
    }

    // ---- terms: paper

    private static void termsOfPaper() {
        test(BoundaryTest::farPlaces);
        test(BoundaryTest::firstOnPaper);
        test(BoundaryTest::sidesOfTheFirst);
        test(BoundaryTest::leadingOn);
    }

    private static void farPlaces() {
        sentence("Terms (promises 9, 10)", "PAPER has places x, y (whole numbers, x to the right, y upwards).");
        int[] one = {2, 2, 2, 3, 2, 2, 1, 2, 2, 2, 3, 2, 0, 2, 2};
        int[] other = {2, 2, 2, 3, 2, 2, 1, 2, 2, 2, 3, 2, 4, 2, 2};
        Used right = solid(one);
        due("to the right", walk(right, 19, 0, 0, 0, 0, 0, 1, 0, 0, 0, 0, 0, 0, 0, 3, 0, 0, 3, 0, 0, 0), 18);
        lies(right, 18, 17, -1);
        Used up = solid(one);
        due("upwards", walk(up, 18, 1, 1, 1, 2, 1, 1, 2, 1, 1, 1, 1, 1, 1, 1, 1, 1, 2, 1, 1, 1), 19);
        lies(up, 19, -3, 17);
        Used left = solid(other);
        due("to the left", walk(left, 19, 2, 2, 2, 2, 2, 3, 2, 2, 2, 2, 2, 2, 2, 1, 2, 2, 1, 2, 2, 2), 18);
        lies(left, 18, -17, 1);
        Used down = solid(other);
        due("downwards", walk(down, 18, 3, 3, 3, 0, 3, 3, 0, 3, 3, 3, 3, 3, 3, 3, 3, 3, 0, 3, 3, 3), 19);
        lies(down, 19, 3, -17);
        for (Used x : new Used[] {right, up, left, down}) {
            due("faces on the paper", x.on().told(6), 21);
        }
    }

    private static void firstOnPaper() {
        sentence("Terms (promise 8)", "The first one lies at 0, 0, with RIGHT and UP by how it looks:"
                + " 0: 2, 4. 1: 4, 2. 2: 4, 0. 3: 0, 4. 4: 0, 2. 5: 2, 0.");
        int[] right = {2, 4, 4, 0, 0, 2};
        int[] up = {4, 2, 0, 4, 2, 0};
        for (int[] places : SOLIDS) {
            Used x = solid(places);
            int n = x.on().told(1);
            for (int f = 0; f < n; f++) {
                int looks = x.on().face(f, 1);
                due("lay(" + f + ")", x.on().lay(f), 0);
                lies(x, f, 0, 0, right[looks], up[looks]);
            }
        }
    }

    private static void sidesOfTheFirst() {
        sentence("Terms (promise 9)", "SIDES of a face: 0 right, 1 up, 2 left, 3 down;"
                + " with e, RIGHT, UP, or the opposite of one of them.");
        // Of a single cube the face across e is face e.
        int[] across = {2, 4, 3, 5, 4, 2, 5, 3, 4, 0, 5, 1, 0, 4, 1, 5, 0, 2, 1, 3, 2, 0, 3, 1};
        int[] toX = {1, 0, -1, 0};
        int[] toY = {0, 1, 0, -1};
        Used x = solid(ONE);
        for (int f = 0; f < 6; f++) {
            for (int side = 0; side < 4; side++) {
                int e = across[4 * f + side];
                x.on().lay(f);
                due("grow(" + f + ", " + side + ")", x.on().grow(f, side), e);
                lies(x, e, toX[side], toY[side]);
            }
        }
        due("there is no side -1", x.on().grow(5, -1), BAD);
        due("there is no side 4", x.on().grow(5, 4), BAD);
    }

    private static void leadingOn() {
        sentence("Terms (promise 9)", "The face ACROSS e lies beside it on that side; along it e leads on as: at a"
                + " RIDGE the opposite of d, at a HOLLOW d, FLAT e; by that its RIGHT or UP is told,"
                + " its other one is the same.");
        boolean[] seen = new boolean[12];
        for (int[] places : SOLIDS) {
            Plan plan = new Plan(places);
            for (int first = 0; first < plan.faces.size(); first++) {
                Used x = solid(places);
                for (int sides = 0; sides < 16; sides++) {
                    x.on().lay(first);
                    int second = growByPlan(x, plan, first, sides / 4, seen);
                    if (second >= 0) {
                        growByPlan(x, plan, second, sides % 4, seen);
                    }
                }
            }
        }
        for (int i = 0; i < seen.length; i++) {
            isTrue("kind " + i / 4 + " of an edge at side " + i % 4 + " was met", seen[i]);
        }
    }

    private static int growByPlan(Used x, Plan plan, int f, int side, boolean[] seen) {
        int right = x.on().paper(f, 2);
        int up = x.on().paper(f, 3);
        int e = (side % 2 == 0 ? right : up) ^ (side / 2);
        int onward = plan.leadsOn(f, e) ^ (side / 2);
        int px = x.on().paper(f, 0) + new int[] {1, 0, -1, 0}[side];
        int py = x.on().paper(f, 1) + new int[] {0, 1, 0, -1}[side];
        int other = x.on().grow(f, side);
        if (other >= 0) {
            seen[4 * plan.kind(f, e) + side] = true;
            due("grow(" + f + ", " + side + ") of " + Arrays.toString(plan.places), other, plan.across(f, e));
            lies(x, other, px, py, side % 2 == 0 ? onward : right, side % 2 == 0 ? up : onward);
        }
        return other;
    }

    // ---- terms: the search

    private static void termsOfTheSearch() {
        test(BoundaryTest::paperOfItsOwn);
        test(BoundaryTest::steps);
        test(BoundaryTest::choices);
        test(BoundaryTest::choicesWhereThePlaceIsEmpty);
        test(BoundaryTest::takenBackAndEnded);
        test(BoundaryTest::eachUnfoldingOnce);
    }

    private static void paperOfItsOwn() {
        sentence("Terms (promise 11)", "THE SEARCH has paper of its own: face 0 is laid.");
        Used x = solid(ONE);
        x.on().lay(3);
        x.on().grow(3, 0);
        x.on().run(5);
        told(x, 1, 6, 1, 1, 5, 0, 2);
        lies(x, 3, 0, 0, 0, 4);
        x.on().lay(5);
        due("the search goes on as if there were no other paper", x.on().run(300), searched(305, ONE).on().told(2));
        due("x of face 0", x.on().best(3, 0), 0);
        due("y of face 0", x.on().best(4, 0), 0);
        due("on the paper by hand there is one", x.on().told(6), 1);
    }

    private static void steps() {
        sentence("Terms (promise 11)", "STEPS are gone through: the faces laid, in the order in which they were laid,"
                + " of each its four sides.");
        // Right, up, left and down of face 0 all get a face; the last one lies right of the first of them.
        Used one = searched(5, ONE);
        int[] placeX = {0, 2, 1, -1, 0, 0};
        int[] placeY = {0, 0, 0, 0, 1, -1};
        for (int f = 0; f < 6; f++) {
            due("best(3, " + f + ")", one.on().best(3, f), placeX[f]);
            due("best(4, " + f + ")", one.on().best(4, f), placeY[f]);
        }
    }

    private static void choices() {
        sentence("Terms (promises 11, 12)", "At one across which a face lies that is not laid, and where that place"
                + " is empty, it is laid: a CHOICE, one WORK.");
        int[][] places = {ONE, TWO, ROW_OF_THREE, CORNER, RING};
        // All faces but face 0 are laid by as many CHOICES: then, not before, there is a NET.
        int[] choices = {5, 9, 13, 13, 21};
        for (int i = 0; i < places.length; i++) {
            Used x = searched(choices[i] - 1, places[i]);
            due("NETS ahead of the last face", x.on().told(2), 0);
            due("NETS by the last face", x.on().run(1), 1);
            due("WORK", x.on().told(4), choices[i]);
        }
    }

    private static void choicesWhereThePlaceIsEmpty() {
        sentence("Terms (promise 11)", "At one across which a face lies that is not laid, and where that place"
                + " is empty, it is laid: a CHOICE, one WORK.");
        Used corner = solid(CORNER);
        int[] nets = {271, 500, 731, 958};
        for (int i = 0; i < nets.length; i++) {
            due("CORNER, run(500)", corner.on().run(500), nets[i]);
        }
        due("RING, 1500 WORK", searched(1500, RING).on().told(2), 388);
        due("ROW_OF_FIVE, 1500 WORK", searched(1500, ROW_OF_FIVE).on().told(2), 770);
    }

    private static void takenBackAndEnded() {
        sentence("Terms (promises 11, 12)", "When all steps are gone through: if all faces are laid, that is a NET;"
                + " then (NET or not) the last CHOICE is taken back, with all that came behind it: its face is not"
                + " laid there, and the steps go on behind it; without a CHOICE the search has ENDED.");
        Used x = searched(702, ONE);
        told(x, 1, 6, 384, 11, 702, 0);
        due("the last CHOICE, run(1)", x.on().run(1), 384);
        told(x, 1, 6, 384, 11, 703, 1);
        due("none is left, run(500)", x.on().run(500), 384);
        told(x, 1, 6, 384, 11, 703, 1);
        Used two = searched(78255, TWO);
        due("one CHOICE is left", two.on().told(5), 0);
        due("run(500)", two.on().run(500), 31500);
        told(two, 2, 10, 31500, 64, 78256, 1);
    }

    private static void eachUnfoldingOnce() {
        sentence("Terms (promise 11)", "(So each unfolding by a tree of edges in which no two faces have one place"
                + " is a NET once.)");
        Used one = searched(1000, ONE);
        due("as many NETS as trees of a cube", one.on().told(2), one.on().trees());
        Used two = searched(78500, TWO);
        due("as many NETS as trees of two cubes", two.on().told(2), two.on().trees());
    }

    // ---- terms: shapes

    private static void termsOfShapes() {
        test(BoundaryTest::leastOfEightImages);
        test(BoundaryTest::shapesInOrder);
        test(BoundaryTest::shapesThatDiffer);
        test(BoundaryTest::sixtyFourShapes);
        test(BoundaryTest::leastProduct);
        test(BoundaryTest::firstOfSuch);
        test(BoundaryTest::asManyPlacesAsFaces);
        test(BoundaryTest::waysAround);
        test(BoundaryTest::otherSolids);
        test(BoundaryTest::placesBesideOneAnother);
    }

    private static void leastOfEightImages() {
        sentence("Terms (promise 14)", "A SHAPE: the places of a NET, moved so that the least x and the least y are 0;"
                + " of its eight images (turned and mirrored, moved likewise) the one whose row of numbers 32 y + x,"
                + " rising, is the least at the first number in which two differ.");
        int[][] places = {ONE, TWO, CORNER, RING, ROW_OF_FIVE};
        for (int[] cubes : places) {
            Used x = solid(cubes);
            int n = x.on().told(1);
            x.on().run(n - 1);
            int[] netX = new int[n];
            int[] netY = new int[n];
            for (int f = 0; f < n; f++) {
                netX[f] = x.on().best(3, f);
                netY[f] = x.on().best(4, f);
            }
            sameRow("the SHAPE of the first NET", row(x, 0), leastImage(netX, netY));
        }
        Used all = searched(703, ONE);
        for (int i = 0; i < 11; i++) {
            int[] row = row(all, i);
            int[] rowX = Arrays.stream(row).map(number -> number % 32).toArray();
            int[] rowY = Arrays.stream(row).map(number -> number / 32).toArray();
            sameRow("SHAPE " + i + " is the least of its images", row, leastImage(rowX, rowY));
        }
        due("a wide one, its first place", searched(21, ROW_OF_FIVE).on().shape(0, 0, 0), 5);
        due("a wide one, its widest place", searched(21, ROW_OF_FIVE).on().shape(0, 16, 0), 11);
    }

    private static int[] leastImage(int[] px, int[] py) {
        int[] least = null;
        for (int image = 0; image < 8; image++) {
            int[] ix = new int[px.length];
            int[] iy = new int[px.length];
            for (int k = 0; k < px.length; k++) {
                ix[k] = (image < 4 ? px[k] : py[k]) * (image % 2 == 0 ? 1 : -1);
                iy[k] = (image < 4 ? py[k] : px[k]) * (image / 2 % 2 == 0 ? 1 : -1);
            }
            int left = Arrays.stream(ix).min().getAsInt();
            int low = Arrays.stream(iy).min().getAsInt();
            int[] row = new int[px.length];
            for (int k = 0; k < px.length; k++) {
                row[k] = 32 * (iy[k] - low) + ix[k] - left;
            }
            Arrays.sort(row);
            least = least == null || Arrays.compare(row, least) < 0 ? row : least;
        }
        return least;
    }

    private static void sameRow(String what, int[] got, int[] want) {
        isTrue(what + " is " + Arrays.toString(got) + ", due is " + Arrays.toString(want), Arrays.equals(got, want));
    }

    private static void sentenceOfShapes() {
        sentence("Terms (promises 11, 14, 15)", "SHAPES that differ are kept in the order in which they were found,"
                + " 64 at most; they stay when there is another solid.");
    }

    private static void shapesInOrder() {
        sentenceOfShapes();
        // The WORK by which the NET was found that has a SHAPE for the first time.
        int[] found = {5, 10, 11, 12, 14, 16, 19, 48, 49, 52, 61};
        int[][] rows = new int[11][];
        Used all = searched(703, ONE);
        for (int i = 0; i < 11; i++) {
            rows[i] = row(all, i);
            due("SHAPES ahead of WORK " + found[i], searched(found[i] - 1, ONE).on().told(3), i);
            Used x = searched(found[i], ONE);
            due("SHAPES by WORK " + found[i], x.on().told(3), i + 1);
            sameRow("the last one of " + (i + 1), row(x, i), rows[i]);
        }
    }

    private static void shapesThatDiffer() {
        sentenceOfShapes();
        Used x = searched(703, ONE);
        TreeSet<String> rows = new TreeSet<>();
        for (int i = 0; i < 11; i++) {
            rows.add(Arrays.toString(row(x, i)));
        }
        due("all 11 differ", rows.size(), 11);
        change(x, 4, 0, 4);
        x.on().run(500);
        x.on().run(500);
        due("the same ones found at another solid", x.on().told(3), 11);
        change(x, TWO);
        due("they stay at another solid", x.on().told(3), 11);
        x.on().run(9);
        due("a new one comes behind them", x.on().told(3), 12);
        due("with more places", x.on().size(11), 10);
        due("the one ahead of it", x.on().size(10), 6);
        x.on().run(11);
        due("one that begins with the places of SHAPE 0 and has more differs, too", x.on().told(3), 16);
        Used turned = searched(20, TWO);
        change(turned, ONE);
        turned.on().run(500);
        due("as does one with fewer places", turned.on().told(3), 16);
    }

    private static void sixtyFourShapes() {
        sentenceOfShapes();
        Used x = searched(362, TWO);
        due("SHAPES by WORK 362", x.on().told(3), 63);
        x.on().run(1);
        due("SHAPES by WORK 363", x.on().told(3), 64);
        int[] last = row(x, 63);
        for (int i = 0; i < 20; i++) {
            x.on().run(500);
        }
        due("64 at most", x.on().told(3), 64);
        sameRow("the last one stays", row(x, 63), last);
        due("there is no SHAPE 64", x.on().size(64), BAD);
        change(x, ONE);
        x.on().run(500);
        due("full for another solid, too", x.on().told(3), 64);
        due("NETS are found all the same", x.on().told(2), 277);
        due("THE BEST NET, too", x.on().best(2, 0), 30);
        sameRow("the last one stays at another solid", row(x, 63), last);
    }

    private static void leastProduct() {
        sentence("Terms (promise 13)", "THE BEST NET is that with the least product of width and height,"
                + " the first one found of such.");
        // WORK, then width, height and number from that WORK on; 5 by 5 is as wide and high in sum as 6 by 4.
        int[] best = {13, 6, 6, 0, 35, 6, 5, 15, 413, 5, 5, 226, 1222, 6, 4, 599, 2443, 5, 4, 1125};
        int[] before = {NONE, NONE, NONE};
        for (int i = 0; i < best.length; i += 4) {
            Used x = searched(best[i] - 1, CORNER);
            for (int what = 0; what < 3; what++) {
                due("best(" + what + ", 0) ahead of WORK " + best[i], x.on().best(what, 0), before[what]);
            }
            x.on().run(1);
            before = Arrays.copyOfRange(best, i + 1, i + 4);
            for (int what = 0; what < 3; what++) {
                due("best(" + what + ", 0) by WORK " + best[i], x.on().best(what, 0), before[what]);
            }
        }
    }

    private static void firstOfSuch() {
        sentence("Terms (promise 13)", "THE BEST NET is that with the least product of width and height,"
                + " the first one found of such.");
        Used one = searched(703, ONE);
        due("of a cube, of 384", one.on().best(2, 0), 30);
        due("its width", one.on().best(0, 0), 5);
        due("its height", one.on().best(1, 0), 2);
        Used two = searched(78256, TWO);
        due("of two cubes, of 31500", two.on().best(2, 0), 0);
    }

    private static void sentenceOfWrapping() {
        sentence("Terms (promise 16)", "A SHAPE WRAPS the solid in a WAY (a face, one of its eight images: places x, y"
                + " at x, y; y, x; -x, y; -y, x; x, -y; y, -x; -x, -y; -y, -x),"
                + " if it has as many places as the solid faces, its first place lies on that face with RIGHT and UP"
                + " as the first one on paper, and, going on from place to place beside it, each place has one face"
                + " on it, all places beside one another by the rule of 2, and each face lies on one place alone.");
    }

    private static void asManyPlacesAsFaces() {
        sentenceOfWrapping();
        Used x = searched(703, ONE);
        x.on().cube(2, 2, 3);
        for (int i = 0; i < 11; i++) {
            due("too few places, wraps(" + i + ")", x.on().wraps(i), 0);
        }
        x.on().run(9);
        due("as many", x.on().wraps(11), 16);
        change(x, ONE);
        due("too many places", x.on().wraps(11), 0);
        due("as many as at first", x.on().wraps(0), 48);
    }

    private static void waysAround() {
        sentenceOfWrapping();
        Used one = searched(703, ONE);
        for (int i = 0; i < 11; i++) {
            due("each face and each image, wraps(" + i + ")", one.on().wraps(i), 48);
        }
        Used two = searched(500, TWO);
        for (int i = 0; i < 64; i++) {
            due("two cubes, wraps(" + i + ")", two.on().wraps(i), i >= 41 && i < 49 ? 32 : 16);
        }
        due("a row of five", searched(21, ROW_OF_FIVE).on().wraps(0), 16);
        Used corner = searched(13, CORNER);
        due("a corner", corner.on().wraps(0), 4);
        change(corner, 3, 3, 3, 3, 2, 3, 3, 2, 2);
        due("turned, and from its other end", corner.on().wraps(0), 4);
        // A solid that differs from its mirror image; images of a SHAPE are mirrored, too.
        Used screw = searched(500, 1, 1, 1, 2, 1, 1, 2, 2, 1, 2, 2, 2);
        due("a screw", screw.on().wraps(24), 2);
        change(screw, 1, 1, 1, 2, 1, 1, 2, 2, 1, 2, 2, 0);
        due("its mirror image", screw.on().wraps(24), 2);
    }

    private static void otherSolids() {
        sentenceOfWrapping();
        // Which SHAPES of the row wrap the corner of three as well, that has as many faces.
        int[] ways = new int[64];
        for (int i : new int[] {19, 22, 24, 28, 35, 37}) {
            ways[i] = 8;
        }
        for (int i : new int[] {21, 23, 25, 27, 30, 36, 38, 39, 42, 46}) {
            ways[i] = 4;
        }
        Used x = searched(739, ROW_OF_THREE);
        for (int i = 0; i < 64; i++) {
            due("a row of three, wraps(" + i + ")", x.on().wraps(i), 16);
        }
        change(x, CORNER);
        for (int i = 0; i < 64; i++) {
            due("a SHAPE of the row around a corner, wraps(" + i + ")", x.on().wraps(i), ways[i]);
        }
        Used corner = searched(135, CORNER);
        change(corner, ROW_OF_THREE);
        for (int i = 0; i < 64; i++) {
            due("a SHAPE of the corner around a row, wraps(" + i + ")", corner.on().wraps(i), 0);
        }
    }

    private static void placesBesideOneAnother() {
        sentenceOfWrapping();
        // Folded from place to place, each of these has a WAY in which every face lies on one place alone.
        Used bent = searched(500, BENT);
        for (int i : new int[] {17, 27, 38, 41, 42, 46, 57, 58, 60}) {
            due("a NET that touches itself, wraps(" + i + ")", bent.on().wraps(i), 0);
        }
        for (int i = 34; i < 37; i++) {
            due("one that touches itself in some WAYS, wraps(" + i + ")", bent.on().wraps(i), 4);
        }
        Used ring = searched(21, RING);
        due("the first NET of a ring", ring.on().wraps(0), 0);
        isTrue("it does touch itself", touchesItself(ring, new Plan(RING)));
    }

    /** Whether in THE BEST NET two faces lie side by side that do not so on the solid. */
    private static boolean touchesItself(Used x, Plan plan) {
        int n = plan.faces.size();
        int[] placeX = new int[n];
        int[] placeY = new int[n];
        boolean touches = false;
        for (int f = 0; f < n; f++) {
            placeX[f] = x.on().best(3, f);
            placeY[f] = x.on().best(4, f);
            for (int g = 0; g < f; g++) {
                int away = Math.abs(placeX[f] - placeX[g]) + Math.abs(placeY[f] - placeY[g]);
                touches |= away == 1 && !areNeighbours(plan, f, g);
            }
        }
        return touches;
    }

    private static boolean areNeighbours(Plan plan, int f, int g) {
        for (int e = 0; e < 6; e++) {
            if (e / 2 != plan.faces.get(f)[1] / 2 && plan.across(f, e) == g) {
                return true;
            }
        }
        return false;
    }

    // ---- terms: a new cube, refusals

    private static void termsOfRefusals() {
        test(BoundaryTest::newCube);
        test(BoundaryTest::firstRefusal);
        test(BoundaryTest::newObjectRefuses);
        test(BoundaryTest::cubeRefuses);
        test(BoundaryTest::fullSolidRefuses);
        test(BoundaryTest::clearedObjectRefuses);
        test(BoundaryTest::endedSearchRefuses);
    }

    private static void newCube() {
        sentence("Terms (promise 2)", "A new cube begins the search anew, and takes all off the paper.");
        Used x = searched(703, ONE);
        walk(x, 4, 0, 0);
        told(x, 1, 6, 384, 11, 703, 1, 3);
        x.on().cube(2, 2, 3);
        told(x, 2, 10, 0, 11, 0, 0, 0);
        for (int f = 0; f < 10; f++) {
            due("paper(" + f + ", 0)", x.on().paper(f, 0), NOWHERE);
            due("best(3, " + f + ")", x.on().best(3, f), NOWHERE);
        }
        due("best(0, 0)", x.on().best(0, 0), NONE);
        due("grow(4, 0)", x.on().grow(4, 0), STATE);
        due("the search of the new solid", x.on().run(500), 273);
        Used midway = searched(77, ONE);
        midway.on().cube(3, 2, 2);
        midway.on().cube(2, 3, 2);
        midway.on().run(500);
        Used fresh = searched(500, 2, 2, 2, 3, 2, 2, 2, 3, 2);
        due("begun midway, NETS", midway.on().told(2), fresh.on().told(2));
        due("begun midway, WORK", midway.on().told(4), 500);
    }

    private static void sentenceOfRefusals() {
        sentence("Terms (all promises)", "Of several refusals the first one here: BAD, STATE, NO, FULL;"
                + " they change nothing.");
    }

    private static void firstRefusal() {
        sentenceOfRefusals();
        Used full = solid(CROSS);
        due("FULL", full.on().cube(2, 2, 3), FULL);
        due("NO (one lies there) and FULL", full.on().cube(2, 2, 2), NO);
        due("NO (none beside) and FULL", full.on().cube(4, 4, 4), NO);
        due("BAD and FULL, beside a cube", solid(ROW_OF_FIVE).on().cube(5, 0, 0), BAD);
        due("BAD and NO", full.on().cube(-1, 0, 0), BAD);
        due("BAD (side) and STATE, grow", full.on().grow(0, 4), BAD);
        due("BAD (face) and STATE, grow", full.on().grow(22, 0), BAD);
        due("STATE, grow", full.on().grow(0, 0), STATE);
        due("BAD and STATE, run", new Used().on().run(501), BAD);
        due("STATE, run", new Used().on().run(500), STATE);
        Used cleared = searched(5, ONE);
        cleared.on().clear();
        due("BAD and STATE, wraps", cleared.on().wraps(1), BAD);
        due("STATE, wraps", cleared.on().wraps(0), STATE);
    }

    /** Calls that are refused have been made on one of two objects with the same calls else: they go on alike. */
    private static void goOnAlike(Used tried, Used plain) {
        int[] one = readAll(tried);
        int[] other = readAll(plain);
        for (int i = 0; i < one.length; i++) {
            due("behind refused calls, reading " + i, one[i], other[i]);
        }
        int[] first = goOn(tried);
        int[] second = goOn(plain);
        for (int i = 0; i < first.length; i++) {
            due("behind refused calls, going on " + i, first[i], second[i]);
        }
    }

    private static int[] readAll(Used x) {
        List<Integer> all = new ArrayList<>();
        for (int what = 0; what < 7; what++) {
            all.add(x.on().told(what));
        }
        all.add((int) x.on().trees());
        for (int f = 0; f < 22; f++) {
            all.add(x.on().face(f, 0));
            all.add(x.on().across(f, 2));
            for (int what = 0; what < 4; what++) {
                all.add(x.on().paper(f, what));
            }
            all.add(x.on().best(3, f));
            all.add(x.on().best(4, f));
        }
        for (int what = 0; what < 3; what++) {
            all.add(x.on().best(what, 0));
        }
        for (int i = 0; i < 4; i++) {
            all.add(x.on().wraps(i));
            all.add(Arrays.hashCode(row(x, i)));
        }
        return all.stream().mapToInt(Integer::intValue).toArray();
    }

    private static int[] goOn(Used x) {
        return new int[] {x.on().run(1), x.on().run(37), x.on().grow(0, 1), x.on().grow(4, 3), x.on().told(6),
            x.on().cube(2, 2, 1), x.on().lay(2), x.on().run(123), x.on().told(4), x.on().forget(), x.on().run(11),
            x.on().told(3), x.on().clear(), x.on().told(3), x.on().cube(4, 4, 4), x.on().run(5)};
    }

    private static void newObjectRefuses() {
        sentenceOfRefusals();
        Used x = new Used();
        due("cube(5, 0, 0)", x.on().cube(5, 0, 0), BAD);
        due("cube(0, -1, 0)", x.on().cube(0, -1, 0), BAD);
        due("face(0, 0)", x.on().face(0, 0), BAD);
        due("across(0, 2)", x.on().across(0, 2), BAD);
        due("trees()", x.on().trees(), STATE);
        due("lay(0)", x.on().lay(0), BAD);
        due("grow(0, 0)", x.on().grow(0, 0), BAD);
        due("paper(0, 0)", x.on().paper(0, 0), NOWHERE);
        due("run(1)", x.on().run(1), STATE);
        due("run(0)", x.on().run(0), BAD);
        due("told(7)", x.on().told(7), BAD);
        due("best(0, 0)", x.on().best(0, 0), NONE);
        due("best(5, 0)", x.on().best(5, 0), BAD);
        due("shape(0, 0, 0)", x.on().shape(0, 0, 0), BAD);
        due("size(0)", x.on().size(0), BAD);
        due("wraps(0)", x.on().wraps(0), BAD);
        goOnAlike(x, new Used());
    }

    private static Used cubeWithPaper() {
        Used x = searched(100, ONE);
        walk(x, 4, 0, 0);
        return x;
    }

    private static void cubeRefuses() {
        sentenceOfRefusals();
        Used x = cubeWithPaper();
        due("cube(2, 2, 5)", x.on().cube(2, 2, 5), BAD);
        due("cube(2, 2, 2)", x.on().cube(2, 2, 2), NO);
        due("cube(3, 3, 2)", x.on().cube(3, 3, 2), NO);
        due("face(6, 0)", x.on().face(6, 0), BAD);
        due("across(0, 1)", x.on().across(0, 1), BAD);
        due("lay(6)", x.on().lay(6), BAD);
        due("lay(-1)", x.on().lay(-1), BAD);
        due("grow(6, 0)", x.on().grow(6, 0), BAD);
        due("grow(4, 4)", x.on().grow(4, 4), BAD);
        due("grow(2, 0)", x.on().grow(2, 0), STATE);
        due("grow(4, 0)", x.on().grow(4, 0), NO);
        due("paper(2, 0)", x.on().paper(2, 0), NOWHERE);
        due("run(0)", x.on().run(0), BAD);
        due("run(501)", x.on().run(501), BAD);
        due("told(-1)", x.on().told(-1), BAD);
        due("best(-1, 0)", x.on().best(-1, 0), BAD);
        due("best(3, 6)", x.on().best(3, 6), NOWHERE);
        due("shape(0, 6, 0)", x.on().shape(0, 6, 0), BAD);
        due("size(-1)", x.on().size(-1), BAD);
        due("wraps(11)", x.on().wraps(11), BAD);
        goOnAlike(x, cubeWithPaper());
    }

    private static Used fullWithPaper() {
        Used x = searched(300, OVER_FIRST);
        walk(x, 0, 0, 3, 2);
        return x;
    }

    private static void fullSolidRefuses() {
        sentenceOfRefusals();
        Used x = fullWithPaper();
        due("cube(2, 2, 3)", x.on().cube(2, 2, 3), FULL);
        due("cube(2, 2, 2)", x.on().cube(2, 2, 2), NO);
        due("cube(4, 4, 4)", x.on().cube(4, 4, 4), NO);
        due("cube(4, 4, 5)", x.on().cube(4, 4, 5), BAD);
        due("grow(12, 1)", x.on().grow(12, 1), -10);
        due("grow(0, 0)", x.on().grow(0, 0), NO);
        due("grow(1, 0)", x.on().grow(1, 0), STATE);
        due("lay(20)", x.on().lay(x.on().told(1)), BAD);
        due("run(501)", x.on().run(501), BAD);
        due("wraps(64)", x.on().wraps(64), BAD);
        goOnAlike(x, fullWithPaper());
    }

    private static Used clearedWithShapes() {
        Used x = searched(100, ONE);
        x.on().lay(0);
        x.on().clear();
        return x;
    }

    private static void clearedObjectRefuses() {
        sentenceOfRefusals();
        Used x = clearedWithShapes();
        due("trees()", x.on().trees(), STATE);
        due("run(500)", x.on().run(500), STATE);
        due("wraps(0)", x.on().wraps(0), STATE);
        due("wraps(11)", x.on().wraps(11), BAD);
        due("lay(0)", x.on().lay(0), BAD);
        due("grow(0, 0)", x.on().grow(0, 0), BAD);
        due("best(2, 0)", x.on().best(2, 0), NONE);
        goOnAlike(x, clearedWithShapes());
    }

    private static void endedSearchRefuses() {
        sentenceOfRefusals();
        Used x = searched(703, ONE);
        due("run(501)", x.on().run(501), BAD);
        due("run(0)", x.on().run(0), BAD);
        due("cube(2, 2, 2)", x.on().cube(2, 2, 2), NO);
        goOnAlike(x, searched(703, ONE));
    }

    // ---- promises 1 to 4

    private static void promises1To4() {
        test(BoundaryTest::nothingAtFirst);
        test(BoundaryTest::facesThen);
        test(BoundaryTest::badPlaces);
        test(BoundaryTest::noPlaces);
        test(BoundaryTest::full);
        test(BoundaryTest::noCubes);
        test(BoundaryTest::noShapes);
        test(BoundaryTest::foundAgain);
    }

    private static void nothingAtFirst() {
        sentence("Promise 1: A new object", "No cubes, no shapes.");
        Used x = new Used();
        told(x, 0, 0, 0, 0, 0, 0, 0);
        due("clear()", x.on().clear(), 0);
        due("forget()", x.on().forget(), 0);
        due("face(0, 0)", x.on().face(0, 0), BAD);
        due("size(0)", x.on().size(0), BAD);
        Used other = searched(5, ONE);
        told(x, 0, 0, 0, 0, 0, 0, 0);
        told(other, 1, 6, 1, 1, 5, 0, 0);
        told(new Used(), 0, 0, 0, 0, 0, 0, 0);
    }

    private static void facesThen() {
        sentence("Promise 2: cube", "A cube: how many faces there are then.");
        Used x = new Used();
        due("the first one", x.on().cube(0, 0, 0), 6);
        due("the second", x.on().cube(1, 0, 0), 10);
        due("the third", x.on().cube(1, 1, 0), 14);
        due("the fourth, beside two", x.on().cube(0, 1, 0), 16);
        due("the fifth", x.on().cube(0, 1, 1), 20);
        x.on().clear();
        due("the first one again", x.on().cube(0, 0, 0), 6);
    }

    private static void badPlaces() {
        sentence("Promise 2: cube", "BAD: x, y, z are not 0 .. 4.");
        Used x = solid(0, 0, 0);
        for (int i = -2; i < WILD.length; i++) {
            int bad = i == -2 ? -1 : i == -1 ? 5 : WILD[i];
            due("cube(" + bad + ", 0, 0)", x.on().cube(bad, 0, 0), BAD);
            due("cube(0, " + bad + ", 0)", x.on().cube(0, bad, 0), BAD);
            due("cube(0, 0, " + bad + ")", x.on().cube(0, 0, bad), BAD);
            due("the first one, cube(" + bad + ", 4, 4)", new Used().on().cube(bad, 4, 4), BAD);
        }
        due("told(0)", x.on().told(0), 1);
        due("beside the last cube of a row", solid(4, 0, 0).on().cube(5, 0, 0), BAD);
        due("4 is not too large", x.on().cube(0, 0, 1) + solid(4, 4, 3).on().cube(4, 4, 4), 20);
    }

    private static void noPlaces() {
        sentence("Promise 2: cube", "NO: one lies there, or none beside it (but the first).");
        Used x = solid(0, 0, 4);
        due("one lies there", x.on().cube(0, 0, 4), NO);
        due("beside by an edge alone", x.on().cube(0, 1, 3), NO);
        due("beside by a corner alone", x.on().cube(1, 1, 3), NO);
        due("the next one if lines of places were joined", x.on().cube(0, 1, 0), NO);
        due("the one opposite if the room were a ring", x.on().cube(0, 0, 0), NO);
        due("the next one, back", solid(0, 1, 0).on().cube(0, 0, 4), NO);
        due("the next one, in y and x", solid(0, 4, 0).on().cube(1, 0, 0), NO);
        due("but the first", new Used().on().cube(3, 1, 2), 6);
        x.on().clear();
        due("but the first, again", x.on().cube(3, 1, 2), 6);
        due("where one lay ahead of clear", x.on().cube(0, 0, 4), NO);
    }

    private static void full() {
        sentence("Promise 2: cube", "FULL.");
        Used x = solid(0, 0, 0, 0, 0, 1, 0, 0, 2, 0, 0, 3);
        due("the fifth is not too many", x.on().cube(0, 0, 4), 22);
        due("the sixth", x.on().cube(0, 1, 0), FULL);
        due("the sixth again", x.on().cube(0, 1, 0), FULL);
        due("told(0)", x.on().told(0), 5);
        due("told(1)", x.on().told(1), 22);
        x.on().clear();
        due("there is room again", x.on().cube(0, 1, 0), 6);
    }

    private static void noCubes() {
        sentence("Promise 3: clear", "No cubes; SHAPES stay: how many cubes there were.");
        due("of none", new Used().on().clear(), 0);
        Used five = searched(21, ROW_OF_FIVE);
        five.on().lay(21);
        int[] kept = row(five, 0);
        due("of five", five.on().clear(), 5);
        due("again", five.on().clear(), 0);
        told(five, 0, 0, 0, 1, 0, 0, 0);
        sameRow("SHAPE 0", row(five, 0), kept);
        due("face(0, 0)", five.on().face(0, 0), BAD);
        due("paper(21, 0)", five.on().paper(21, 0), NOWHERE);
        due("best(0, 0)", five.on().best(0, 0), NONE);
        due("best(3, 0)", five.on().best(3, 0), NOWHERE);
        due("cube(2, 2, 2)", five.on().cube(2, 2, 2), 6);
        due("clear()", five.on().clear(), 1);
        Used album = searched(500, TWO);
        due("of two", album.on().clear(), 2);
        due("64 SHAPES stay", album.on().told(3), 64);
        Used ended = searched(703, ONE);
        ended.on().clear();
        told(ended, 0, 0, 0, 11, 0, 0, 0);
    }

    private static void noShapes() {
        sentence("Promise 4: forget", "No SHAPES: how many there were.");
        due("of none", new Used().on().forget(), 0);
        Used x = searched(703, ONE);
        due("of 11", x.on().forget(), 11);
        due("again", x.on().forget(), 0);
        due("told(3)", x.on().told(3), 0);
        due("size(0)", x.on().size(0), BAD);
        due("shape(0, 0, 0)", x.on().shape(0, 0, 0), BAD);
        due("wraps(0)", x.on().wraps(0), BAD);
        Used full = searched(500, TWO);
        due("of 64", full.on().forget(), 64);
        due("told(3)", full.on().told(3), 0);
        Used without = searched(5, ONE);
        without.on().clear();
        due("without cubes", without.on().forget(), 1);
    }

    private static void foundAgain() {
        sentence("Promise 4: forget", "(The search goes on; what is found again is kept again.)");
        Used x = searched(300, ONE);
        x.on().forget();
        told(x, 1, 6, 169, 0, 300, 0, 0);
        due("best(2, 0)", x.on().best(2, 0), 30);
        x.on().run(500);
        told(x, 1, 6, 384, 11, 703, 1, 0);
        x.on().forget();
        due("none is found when it has ENDED", x.on().run(500), 384);
        due("told(3)", x.on().told(3), 0);
        Used full = searched(500, TWO);
        full.on().forget();
        full.on().run(500);
        due("full again", full.on().told(3), 64);
        due("told(2)", full.on().told(2), 503);
    }

    // ---- promises 5 to 7

    private static void promises5To7() {
        test(BoundaryTest::cubeAndDirection);
        test(BoundaryTest::noSuchFaceOrWhat);
        test(BoundaryTest::firstAndLastAcross);
        test(BoundaryTest::noSuchDirection);
        test(BoundaryTest::manyTrees);
        test(BoundaryTest::noTrees);
    }

    private static void cubeAndDirection() {
        sentence("Promise 5: face", "Of a face: 0 its cube, as they came, 1 its direction.");
        Used x = solid(ROW_OF_FIVE);
        due("the first face's cube", x.on().face(0, 0), 0);
        due("the first face's direction", x.on().face(0, 1), 1);
        due("the last face's cube", x.on().face(21, 0), 4);
        due("the last face's direction", x.on().face(21, 1), 5);
        Used back = solid(4, 4, 4, 4, 4, 3);
        due("a cube of lesser z that came later", back.on().face(9, 0), 1);
        due("its last direction", back.on().face(9, 1), 5);
    }

    private static void noSuchFaceOrWhat() {
        sentence("Promise 5: face", "BAD.");
        Used x = solid(CROSS);
        due("face(-1, 0)", x.on().face(-1, 0), BAD);
        due("face(22, 0)", x.on().face(22, 0), BAD);
        due("face(0, -1)", x.on().face(0, -1), BAD);
        due("face(0, 2)", x.on().face(0, 2), BAD);
        due("face(6, 0) of six", solid(ONE).on().face(6, 0), BAD);
        due("face(0, 0) of none", new Used().on().face(0, 0), BAD);
        for (int wild : WILD) {
            due("face(" + wild + ", 0)", x.on().face(wild, 0), BAD);
            due("face(0, " + wild + ")", x.on().face(0, wild), BAD);
        }
        change(x, ONE);
        due("face(6, 0) behind a greater solid", x.on().face(6, 0), BAD);
    }

    private static void firstAndLastAcross() {
        sentence("Promise 6: across", "The face ACROSS a direction.");
        Used x = solid(ROW_OF_FIVE);
        due("the first face, its first direction", x.on().across(0, 2), 1);
        due("the first face, its last direction", x.on().across(0, 5), 4);
        due("the last face, its first direction", x.on().across(21, 0), 17);
        due("the last face, its last direction", x.on().across(21, 3), 19);
        due("face 0 lies across, too", x.on().across(4, 1), 0);
        due("face 21 lies across, too", x.on().across(17, 5), 21);
    }

    private static void noSuchDirection() {
        sentence("Promise 6: across", "BAD: no such face, direction, or that of the face, or its opposite.");
        Used x = solid(ROW_OF_FIVE);
        due("across(-1, 0)", x.on().across(-1, 0), BAD);
        due("across(22, 0)", x.on().across(22, 0), BAD);
        due("across(0, -1)", x.on().across(0, -1), BAD);
        due("across(0, 6)", x.on().across(0, 6), BAD);
        for (int wild : WILD) {
            due("across(" + wild + ", 2)", x.on().across(wild, 2), BAD);
            due("across(0, " + wild + ")", x.on().across(0, wild), BAD);
        }
        Used one = solid(ONE);
        for (int f = 0; f < 6; f++) {
            due("its own direction, " + f, one.on().across(f, f), BAD);
            due("the opposite of " + f, one.on().across(f, f ^ 1), BAD);
            due("the next one", one.on().across(f, (f + 2) % 6), (f + 2) % 6);
        }
        due("across(0, 2) of none", new Used().on().across(0, 2), BAD);
        change(x, ONE);
        due("across(6, 0) behind a greater solid", x.on().across(6, 0), BAD);
    }

    private static void manyTrees() {
        sentence("Promise 7: trees", "How many trees of edges there are"
                + " (faces beside one another by each side of theirs).");
        due("the least", solid(ONE).on().trees(), 384);
        due("two", solid(TWO).on().trees(), 31500);
        due("a row of three", solid(ROW_OF_THREE).on().trees(), 2558976);
        due("a corner", solid(CORNER).on().trees(), 2488976);
        due("a square", solid(SQUARE).on().trees(), 29859840);
        due("more than an int holds, a row", solid(ROW_OF_FIVE).on().trees(), 16864848000L);
        due("the most", solid(RING).on().trees(), 22055338416L);
        Used x = solid(RING);
        x.on().trees();
        due("asked again", x.on().trees(), 22055338416L);
        change(x, ONE);
        due("of a lesser solid behind a greater one", x.on().trees(), 384);
    }

    private static void noTrees() {
        sentence("Promise 7: trees", "STATE: no cubes.");
        due("of a new object", new Used().on().trees(), STATE);
        Used x = solid(ONE);
        x.on().clear();
        due("behind clear", x.on().trees(), STATE);
    }

    // ---- promises 8 to 10

    private static void promises8To10() {
        test(BoundaryTest::allGoes);
        test(BoundaryTest::layRefused);
        test(BoundaryTest::laidBeside);
        test(BoundaryTest::growRefused);
        test(BoundaryTest::growWithoutFace);
        test(BoundaryTest::otherLies);
        test(BoundaryTest::placeTaken);
        test(BoundaryTest::placesOnPaper);
        test(BoundaryTest::paperOfNoFace);
        test(BoundaryTest::paperRefused);
    }

    private static void allGoes() {
        sentence("Promise 8: lay", "All goes from the paper, and a face lies on it as the first one: 0.");
        Used x = solid(ONE);
        due("on empty paper", x.on().lay(4), 0);
        walk(x, 4, 0, 0);
        for (int side = 1; side < 4; side++) {
            x.on().grow(4, side);
        }
        due("all six lie", x.on().told(6), 6);
        due("one that lies elsewhere", x.on().lay(5), 0);
        due("told(6)", x.on().told(6), 1);
        lies(x, 5, 0, 0, 2, 0);
        for (int f = 0; f < 5; f++) {
            due("paper(" + f + ", 0)", x.on().paper(f, 0), NOWHERE);
        }
        due("the same one again", x.on().lay(5), 0);
        due("told(6)", x.on().told(6), 1);
        due("where faces lay there is room", walk(x, 4, 0, 0), 5);
        due("the last face of 22", solid(CROSS).on().lay(21), 0);
    }

    private static void layRefused() {
        sentence("Promise 8: lay", "BAD.");
        Used x = solid(CROSS);
        walk(x, 3, 0);
        due("lay(-1)", x.on().lay(-1), BAD);
        due("lay(22)", x.on().lay(22), BAD);
        for (int wild : WILD) {
            due("lay(" + wild + ")", x.on().lay(wild), BAD);
        }
        due("what lies stays", x.on().told(6), 2);
        due("lay(0) of none", new Used().on().lay(0), BAD);
        due("lay(6) of six", solid(ONE).on().lay(6), BAD);
    }

    private static void laidBeside() {
        sentence("Promise 9: grow", "The face across a side of one that lies on the paper is laid beside it:"
                + " which one it is.");
        Used x = solid(ONE);
        due("face 0 is one, too", walk(x, 4, 0), 0);
        lies(x, 0, 1, 0, 5, 2);
        due("the last one", x.on().grow(0, 0), 5);
        lies(x, 5, 2, 0, 1, 2);
        due("a third time", x.on().grow(5, 0), 1);
        lies(x, 1, 3, 0, 4, 2);
        due("told(6)", x.on().told(6), 4);
        due("all around: the first one lies there", x.on().grow(1, 0), NO);
    }

    private static void growRefused() {
        sentence("Promise 9: grow", "BAD: no such face, side.");
        Used x = solid(CROSS);
        x.on().lay(0);
        due("grow(-1, 0)", x.on().grow(-1, 0), BAD);
        due("grow(22, 0)", x.on().grow(22, 0), BAD);
        due("grow(0, -1)", x.on().grow(0, -1), BAD);
        due("grow(0, 4)", x.on().grow(0, 4), BAD);
        for (int wild : WILD) {
            due("grow(" + wild + ", 0)", x.on().grow(wild, 0), BAD);
            due("grow(0, " + wild + ")", x.on().grow(0, wild), BAD);
        }
        due("told(6)", x.on().told(6), 1);
        due("grow(0, 0) of none", new Used().on().grow(0, 0), BAD);
    }

    private static void growWithoutFace() {
        sentence("Promise 9: grow", "STATE: it does not lie on the paper.");
        Used x = solid(ONE);
        due("nothing lies", x.on().grow(0, 0), STATE);
        x.on().lay(4);
        due("another one lies", x.on().grow(0, 0), STATE);
        due("its neighbour lies", x.on().grow(0, 2), STATE);
        x.on().lay(0);
        due("it lay there once", x.on().grow(4, 0), STATE);
        x.on().cube(2, 2, 3);
        due("it lay there ahead of a new cube", x.on().grow(0, 0), STATE);
        x.on().run(500);
        due("it lies on the search's paper", x.on().grow(0, 0), STATE);
    }

    private static void otherLies() {
        sentence("Promise 9: grow", "NO: the other one does;");
        Used x = solid(ONE);
        walk(x, 4, 0);
        due("back", x.on().grow(0, 2), NO);
        due("the same again", x.on().grow(4, 0), NO);
        x.on().grow(4, 1);
        due("it lies elsewhere, this place is empty", x.on().grow(0, 1), NO);
        due("told(6)", x.on().told(6), 3);
        Used corner = solid(CORNER);
        walk(corner, 3, 0, 1, 2);
        due("below lies face 3, and the other one lies nowhere", corner.on().grow(10, 3), -13);
        due("to the left", corner.on().grow(3, 2), 0);
        due("the other one", corner.on().grow(0, 1), 1);
        due("below lies face 3, but the other one lies, too", corner.on().grow(10, 3), NO);
    }

    private static void placeTaken() {
        sentence("Promise 9: grow", "-10 less the face that lies at that place.");
        Used first = solid(OVER_FIRST);
        due("over face 0", walk(first, 0, 0, 3, 2, 1), -10);
        due("told(6)", first.on().told(6), 4);
        Used last = solid(OVER_LAST);
        due("over face 21", walk(last, 21, 2, 1, 0, 3), -31);
        due("told(6)", last.on().told(6), 4);
        due("the same again", last.on().grow(12, 3), -31);
        Used corner = solid(CORNER);
        due("over face 3", walk(corner, 3, 0, 1, 2, 3), -13);
        due("over face 12, from the other end", walk(corner, 12, 3, 2, 1, 0), -22);
        due("nothing is over it when it has gone", walk(corner, 10, 3), 1);
    }

    private static void placesOnPaper() {
        sentence("Promise 10: paper", "Of a face on the paper: 0 x, 1 y, 2 RIGHT, 3 UP.");
        Used x = solid(ONE);
        walk(x, 1, 2, 3);
        lies(x, 1, 0, 0, 4, 2);
        lies(x, 5, -1, 0, 1, 2);
        lies(x, 3, -1, -1, 1, 5);
        Used most = solid(CROSS);
        most.on().lay(21);
        lies(most, 21, 0, 0, 2, 0);
    }

    private static void paperOfNoFace() {
        sentence("Promise 10: paper", "-1000: it does not lie there.");
        Used x = solid(ONE);
        for (int what = 0; what < 4; what++) {
            due("nothing lies, paper(0, " + what + ")", x.on().paper(0, what), NOWHERE);
        }
        walk(x, 4, 3);
        for (int what = 0; what < 4; what++) {
            due("another one lies, paper(0, " + what + ")", x.on().paper(0, what), NOWHERE);
        }
        lies(x, 3, 0, -1, 0, 4);
        x.on().lay(0);
        due("it has gone", x.on().paper(3, 1), NOWHERE);
        x.on().clear();
        due("there are no cubes", x.on().paper(0, 0), NOWHERE);
    }

    private static void paperRefused() {
        sentence("Promise 10: paper", "BAD: no such face, what: -1000, too.");
        Used x = solid(CROSS);
        x.on().lay(0);
        due("paper(-1, 0)", x.on().paper(-1, 0), NOWHERE);
        due("paper(22, 0)", x.on().paper(22, 0), NOWHERE);
        due("paper(0, -1)", x.on().paper(0, -1), NOWHERE);
        due("paper(0, 4)", x.on().paper(0, 4), NOWHERE);
        due("neither face nor what", x.on().paper(22, 4), NOWHERE);
        due("no such what of one that does not lie", x.on().paper(1, 4), NOWHERE);
        for (int wild : WILD) {
            due("paper(" + wild + ", 0)", x.on().paper(wild, 0), NOWHERE);
            due("paper(0, " + wild + ")", x.on().paper(0, wild), NOWHERE);
        }
        due("paper(0, 0) of none", new Used().on().paper(0, 0), NOWHERE);
    }

    // ---- promises 11 and 12

    private static void promises11And12() {
        test(BoundaryTest::upToTheFirstChoice);
        test(BoundaryTest::inPieces);
        test(BoundaryTest::badWork);
        test(BoundaryTest::noCubesToRun);
        test(BoundaryTest::howMany);
        test(BoundaryTest::badTold);
    }

    private static void upToTheFirstChoice() {
        sentence("Promise 11: run", "The search goes on, up to the first CHOICE that would be more WORK than told:"
                + " how many NETS were found since the solid was made.");
        Used x = solid(ONE);
        for (int i = 1; i < 5; i++) {
            due("run(1), WORK " + i, x.on().run(1), 0);
            due("told(4)", x.on().told(4), i);
        }
        due("the NET behind the fifth CHOICE, ahead of the sixth", x.on().run(1), 1);
        due("told(4)", x.on().told(4), 5);
        due("at once", solid(ONE).on().run(5), 1);
        Used whole = searched(702, ONE);
        due("all NETS ahead of the last CHOICE", whole.on().told(2), 384);
        due("not ENDED ahead of it", whole.on().told(5), 0);
        due("the last CHOICE", whole.on().run(1), 384);
        due("ENDED behind it, no more WORK is asked for", whole.on().told(5), 1);
        due("when it has ENDED", whole.on().run(500), 384);
        due("no WORK more", whole.on().told(4), 703);
        Used again = searched(100, TWO);
        change(again, ONE);
        due("NETS of another solid do not count", again.on().run(5), 1);
    }

    private static void inPieces() {
        sentence("Promise 11: run", "The search goes on, up to the first CHOICE that would be more WORK than told:"
                + " how many NETS were found since the solid was made.");
        Used whole = searched(400, CORNER);
        Used pieces = solid(CORNER);
        for (int i = 0; i < 400; i++) {
            pieces.on().run(1);
        }
        for (int what = 0; what < 7; what++) {
            due("in 400 pieces, told(" + what + ")", pieces.on().told(what), whole.on().told(what));
        }
        for (int what = 0; what < 3; what++) {
            due("in 400 pieces, best(" + what + ", 0)", pieces.on().best(what, 0), whole.on().best(what, 0));
        }
        due("go on", pieces.on().run(500), whole.on().run(500));
    }

    private static void badWork() {
        sentence("Promise 11: run", "BAD: work is not 1 .. 500.");
        Used x = solid(ROW_OF_FIVE);
        due("run(0)", x.on().run(0), BAD);
        due("run(-1)", x.on().run(-1), BAD);
        due("run(501)", x.on().run(501), BAD);
        for (int wild : WILD) {
            if (wild != 256) {
                due("run(" + wild + ")", x.on().run(wild), BAD);
            }
        }
        due("told(4)", x.on().told(4), 0);
        due("run(1)", x.on().run(1), 0);
        due("told(4)", x.on().told(4), 1);
        isTrue("run(500)", x.on().run(500) > 0);
        due("told(4)", x.on().told(4), 501);
    }

    private static void noCubesToRun() {
        sentence("Promise 11: run", "STATE: no cubes.");
        Used x = new Used();
        due("run(1)", x.on().run(1), STATE);
        due("run(500)", x.on().run(500), STATE);
        build(x, ONE);
        due("with one", x.on().run(1), 0);
        x.on().clear();
        due("behind clear", x.on().run(1), STATE);
        told(x, 0, 0, 0, 0, 0, 0, 0);
    }

    private static void howMany() {
        sentence("Promise 12: told", "How many: 0 cubes, 1 faces, 2 NETS, 3 SHAPES, 4 WORK of this solid,"
                + " 5 1 if the search has ENDED, else 0, 6 faces on the paper (by hand).");
        told(new Used(), 0, 0, 0, 0, 0, 0, 0);
        Used x = searched(363, TWO);
        walk(x, 0, 0, 0);
        told(x, 2, 10, 201, 64, 363, 0, 3);
        Used ended = searched(1000, ONE);
        told(ended, 1, 6, 384, 11, 703, 1, 0);
        ended.on().lay(0);
        due("one face by hand", ended.on().told(6), 1);
        change(ended, CROSS);
        told(ended, 5, 22, 0, 11, 0, 0, 0);
        ended.on().run(7);
        due("WORK of this solid", ended.on().told(4), 7);
    }

    private static void badTold() {
        sentence("Promise 12: told", "BAD.");
        Used x = searched(5, ONE);
        due("told(-1)", x.on().told(-1), BAD);
        due("told(7)", x.on().told(7), BAD);
        for (int wild : WILD) {
            due("told(" + wild + ")", x.on().told(wild), BAD);
        }
        due("told(7) of none", new Used().on().told(7), BAD);
    }

    // ---- promises 13 to 16

    private static void promises13To16() {
        test(BoundaryTest::bestNet);
        test(BoundaryTest::noBestNet);
        test(BoundaryTest::noFaceInBestNet);
        test(BoundaryTest::badBest);
        test(BoundaryTest::placesByNumbers);
        test(BoundaryTest::badShape);
        test(BoundaryTest::howManyPlaces);
        test(BoundaryTest::badSize);
        test(BoundaryTest::badWraps);
        test(BoundaryTest::noCubesToWrap);
    }

    private static void bestNet() {
        sentence("Promise 13: best", "Of THE BEST NET: 0 width, 1 height, 2 its number among the NETS (from 0 on);"
                + " of face f 3 x, 4 y (as it lay on the search's paper).");
        Used first = searched(5, ONE);
        due("width", first.on().best(0, 0), 4);
        due("height", first.on().best(1, 0), 3);
        due("the first number", first.on().best(2, 0), 0);
        Used x = searched(703, ONE);
        int[] placeX = {0, 2, 1, -1, 0, -2};
        int[] placeY = {0, 0, 0, 1, 1, 1};
        for (int f = 0; f < 6; f++) {
            due("best(3, " + f + ")", x.on().best(3, f), placeX[f]);
            due("best(4, " + f + ")", x.on().best(4, f), placeY[f]);
        }
        for (int wild : WILD) {
            due("width, whatever face", x.on().best(0, wild), 5);
            due("height, whatever face", x.on().best(1, wild), 2);
            due("number, whatever face", x.on().best(2, wild), 30);
        }
        x.on().forget();
        due("without SHAPES", x.on().best(2, 0), 30);
    }

    private static void noBestNet() {
        sentence("Promise 13: best", "0 .. 2: NONE: there is none;");
        Used ahead = searched(4, ONE);
        Used behind = searched(5, ONE);
        behind.on().cube(2, 2, 1);
        Used without = searched(5, ONE);
        without.on().clear();
        for (Used x : new Used[] {new Used(), solid(ONE), ahead, behind, without}) {
            for (int what = 0; what < 3; what++) {
                due("best(" + what + ", 0)", x.on().best(what, 0), NONE);
                due("best(" + what + ", -1)", x.on().best(what, -1), NONE);
            }
        }
        ahead.on().run(1);
        due("by the first NET", ahead.on().best(0, 0), 4);
    }

    private static void noFaceInBestNet() {
        sentence("Promise 13: best", "3, 4: -1000: there is none, or no such face.");
        Used behind = searched(5, ONE);
        behind.on().cube(2, 2, 1);
        for (Used x : new Used[] {new Used(), solid(ONE), searched(4, ONE), behind}) {
            due("there is none, best(3, 0)", x.on().best(3, 0), NOWHERE);
            due("there is none, best(4, 0)", x.on().best(4, 0), NOWHERE);
        }
        Used x = searched(5, ONE);
        Used most = searched(21, CROSS);
        for (int what = 3; what < 5; what++) {
            due("best(" + what + ", -1)", x.on().best(what, -1), NOWHERE);
            due("best(" + what + ", 6)", x.on().best(what, 6), NOWHERE);
            isTrue("best(" + what + ", 21)", most.on().best(what, 21) > NOWHERE);
            due("best(" + what + ", 22)", most.on().best(what, 22), NOWHERE);
            for (int wild : WILD) {
                due("best(" + what + ", " + wild + ")", x.on().best(what, wild), NOWHERE);
            }
        }
        change(most, ONE);
        most.on().run(5);
        due("behind a greater solid, best(3, 6)", most.on().best(3, 6), NOWHERE);
    }

    private static void badBest() {
        sentence("Promise 13: best", "BAD: another what.");
        for (Used x : new Used[] {new Used(), solid(ONE), searched(5, ONE)}) {
            due("best(-1, 0)", x.on().best(-1, 0), BAD);
            due("best(5, 0)", x.on().best(5, 0), BAD);
            due("no such face, either", x.on().best(5, 6), BAD);
            for (int wild : WILD) {
                due("best(" + wild + ", 0)", x.on().best(wild, 0), BAD);
            }
        }
    }

    private static void placesByNumbers() {
        sentence("Promise 14: shape", "Place k of a SHAPE, by its numbers, rising: what = 0 x, 1 y.");
        Used x = searched(703, ONE);
        sameRow("SHAPE 0", row(x, 0), new int[] {1, 32, 33, 34, 35, 65});
        sameRow("SHAPE 2", row(x, 2), new int[] {0, 1, 33, 34, 65, 97});
        for (int i = 0; i < 11; i++) {
            int[] row = row(x, i);
            for (int k = 1; k < 6; k++) {
                isTrue("SHAPE " + i + " rises at place " + k, row[k] > row[k - 1]);
            }
        }
        Used five = searched(21, ROW_OF_FIVE);
        due("the last place of 22, x", five.on().shape(0, 21, 0), 5);
        due("the last place of 22, y", five.on().shape(0, 21, 1), 10);
        Used full = searched(363, TWO);
        isTrue("the last SHAPE of 64", full.on().shape(63, 9, 1) > 0);
    }

    private static void badShape() {
        sentence("Promise 14: shape", "BAD.");
        due("of none", new Used().on().shape(0, 0, 0), BAD);
        Used x = searched(703, ONE);
        int[] bad = {-1, 0, 0, 11, 0, 0, 0, -1, 0, 0, 6, 0, 1, -1, 0, 10, 6, 1, 0, 0, -1, 0, 0, 2};
        for (int i = 0; i < bad.length; i += 3) {
            due("shape(" + bad[i] + ", " + bad[i + 1] + ", " + bad[i + 2] + ")",
                    x.on().shape(bad[i], bad[i + 1], bad[i + 2]), BAD);
        }
        for (int wild : WILD) {
            due("shape(" + wild + ", 0, 0)", x.on().shape(wild, 0, 0), BAD);
            due("shape(0, " + wild + ", 0)", x.on().shape(0, wild, 0), BAD);
            due("shape(0, 0, " + wild + ")", x.on().shape(0, 0, wild), BAD);
        }
        Used full = searched(500, TWO);
        due("shape(64, 0, 0)", full.on().shape(64, 0, 0), BAD);
        due("shape(63, 10, 0)", full.on().shape(63, 10, 0), BAD);
        full.on().forget();
        due("of none any more", full.on().shape(0, 0, 0), BAD);
    }

    private static void howManyPlaces() {
        sentence("Promise 15: size", "How many places a SHAPE has.");
        due("6 are the least", searched(5, ONE).on().size(0), 6);
        due("22 are the most", searched(21, ROW_OF_FIVE).on().size(0), 22);
        Used x = searched(363, TWO);
        due("the first one of 64", x.on().size(0), 10);
        due("the last one of 64", x.on().size(63), 10);
        x.on().clear();
        due("without cubes", x.on().size(63), 10);
    }

    private static void badSize() {
        sentence("Promise 15: size", "BAD.");
        due("of none", new Used().on().size(0), BAD);
        Used x = searched(363, TWO);
        due("size(-1)", x.on().size(-1), BAD);
        due("size(64)", x.on().size(64), BAD);
        for (int wild : WILD) {
            due("size(" + wild + ")", x.on().size(wild), BAD);
        }
        Used one = searched(5, ONE);
        due("size(1) of one", one.on().size(1), BAD);
        one.on().forget();
        due("of none any more", one.on().size(0), BAD);
    }

    private static void badWraps() {
        sentence("Promise 16: wraps", "In how many WAYS a SHAPE WRAPS the solid. BAD.");
        due("of none", solid(ONE).on().wraps(0), BAD);
        Used x = searched(363, TWO);
        due("the last one of 64", x.on().wraps(63), 16);
        due("wraps(-1)", x.on().wraps(-1), BAD);
        due("wraps(64)", x.on().wraps(64), BAD);
        for (int wild : WILD) {
            due("wraps(" + wild + ")", x.on().wraps(wild), BAD);
        }
        x.on().forget();
        due("of none any more", x.on().wraps(0), BAD);
    }

    private static void noCubesToWrap() {
        sentence("Promise 16: wraps", "STATE: no cubes.");
        Used x = searched(5, ONE);
        due("with one", x.on().wraps(0), 48);
        x.on().clear();
        due("behind clear", x.on().wraps(0), STATE);
        due("no such SHAPE", x.on().wraps(1), BAD);
        due("of a new object", new Used().on().wraps(0), BAD);
        build(x, ONE);
        due("with one again", x.on().wraps(0), 48);
    }
}
