/** For each promise of the document: ordinary calls, the edges that it names, and wrong arguments. */
public final class PromiseTest {
    private static final int BAD = -1, STATE = -2, NO = -3, FULL = -4, NONE = -9, NOWHERE = -1000;
    private static final int[] WILD = {Integer.MIN_VALUE, -1000, -1, 64, 1000, Integer.MAX_VALUE};
    private static int wrong = 0;

    private static void due(String call, long got, long want) {
        if (got != want) {
            wrong++;
            System.out.println(call + " answered " + got + ", due is " + want);
        }
    }

    public static void main(String[] args) {
        constants();
        promise1NewObject();
        promise2Cube();
        promise3Clear();
        promise4Forget();
        promise5Face();
        promise6Across();
        promise7Trees();
        promise8Lay();
        promise9Grow();
        promise9Overlap();
        promise10Paper();
        promise11Run();
        promise12Told();
        promise13Best();
        promise14Shape();
        promise15Size();
        promise16Wraps();
        newCubeBeginsAnew();
        refusalsChangeNothing();
        System.out.println(wrong == 0 ? "all answers are as due" : wrong + " answers are not as due");
        if (wrong != 0) {
            System.exit(1);
        }
    }

    /** A solid of the cubes given as x, y, z, x, y, z, .. */
    private static NetSearch solid(int... places) {
        NetSearch made = new NetSearch();
        build(made, places);
        return made;
    }

    private static void build(NetSearch made, int... places) {
        for (int i = 0; i < places.length; i += 3) {
            if (made.cube(places[i], places[i + 1], places[i + 2]) < 0) {
                throw new IllegalStateException("the test's own solid was refused");
            }
        }
    }

    /** In few calls: beyond its 512th an object's answers are free. */
    private static void runToEnd(NetSearch x) {
        for (int i = 0; i < 200 && x.told(5) == 0; i++) {
            x.run(500);
        }
    }

    private static void constants() {
        due("BAD", NetSearch.BAD, BAD);
        due("STATE", NetSearch.STATE, STATE);
        due("NO", NetSearch.NO, NO);
        due("FULL", NetSearch.FULL, FULL);
        due("NONE", NetSearch.NONE, NONE);
    }

    private static void promise1NewObject() {
        NetSearch x = new NetSearch();
        for (int what = 0; what <= 6; what++) {
            due("1: told(" + what + ") of a new object", x.told(what), 0);
        }
        due("1: clear()", x.clear(), 0);
        due("1: forget()", x.forget(), 0);
        due("1: size(0)", x.size(0), BAD);
        due("1: face(0, 0)", x.face(0, 0), BAD);
        due("1: best(0, 0)", x.best(0, 0), NONE);
        NetSearch other = solid(0, 0, 0);
        due("1: objects are apart", x.told(0), 0);
        due("1: objects are apart", other.told(0), 1);
    }

    private static void promise2Cube() {
        NetSearch x = new NetSearch();
        for (int bad : new int[] {-1, 5, Integer.MIN_VALUE, Integer.MAX_VALUE}) {
            due("2: x is " + bad, x.cube(bad, 0, 0), BAD);
            due("2: y is " + bad, x.cube(0, bad, 0), BAD);
            due("2: z is " + bad, x.cube(0, 0, bad), BAD);
        }
        due("2: a refused cube is not there", x.told(0), 0);
        due("2: the first, in a corner", x.cube(4, 4, 4), 6);
        due("2: one lies there", x.cube(4, 4, 4), NO);
        due("2: beside by an edge alone", x.cube(3, 3, 4), NO);
        due("2: two away", x.cube(2, 4, 4), NO);
        due("2: second", x.cube(4, 4, 3), 10);
        due("2: third", x.cube(4, 3, 3), 14);
        due("2: fourth, beside two", x.cube(4, 3, 4), 16);
        due("2: fifth", x.cube(3, 3, 4), 20);
        due("2: sixth", x.cube(3, 4, 4), FULL);
        due("2: BAD ahead of FULL", x.cube(5, 4, 4), BAD);
        due("2: NO ahead of FULL, one lies there", x.cube(4, 4, 4), NO);
        due("2: NO ahead of FULL, none beside", x.cube(0, 0, 0), NO);
        due("2: five cubes", x.told(0), 5);
        int[] steps = {3, 2, 2, 1, 2, 2, 2, 3, 2, 2, 1, 2, 2, 2, 3, 2, 2, 1};
        for (int i = 0; i < steps.length; i += 3) {
            due("2: beside, way " + i / 3, solid(2, 2, 2).cube(steps[i], steps[i + 1], steps[i + 2]), 10);
        }
    }

    private static void promise3Clear() {
        NetSearch x = solid(0, 0, 0, 1, 0, 0, 2, 0, 0);
        x.run(500);
        x.lay(3);
        int shapes = x.told(3);
        due("3: clear()", x.clear(), 3);
        due("3: clear() again", x.clear(), 0);
        due("3: cubes", x.told(0), 0);
        due("3: faces", x.told(1), 0);
        due("3: NETS", x.told(2), 0);
        due("3: there were SHAPES", shapes > 0 ? 1 : 0, 1);
        due("3: SHAPES stay", x.told(3), shapes);
        due("3: a SHAPE's places stay", x.size(0), 14);
        due("3: WORK", x.told(4), 0);
        due("3: ENDED", x.told(5), 0);
        due("3: paper", x.told(6), 0);
        due("3: paper of a face", x.paper(3, 0), NOWHERE);
        due("3: best", x.best(0, 0), NONE);
        due("3: trees", x.trees(), STATE);
        due("3: run", x.run(1), STATE);
        due("3: the first one lies anywhere again", x.cube(4, 0, 4), 6);
    }

    private static void promise4Forget() {
        NetSearch x = solid(2, 2, 2);
        x.run(300);
        int nets = x.told(2);
        int shapes = x.told(3);
        due("4: forget()", x.forget(), shapes);
        due("4: forget() again", x.forget(), 0);
        due("4: SHAPES", x.told(3), 0);
        due("4: size(0)", x.size(0), BAD);
        due("4: NETS stay", x.told(2), nets);
        due("4: WORK stays", x.told(4), 300);
        due("4: best stays", x.best(0, 0) > 0 ? 1 : 0, 1);
        runToEnd(x);
        due("4: the search goes on", x.told(2), 384);
        due("4: WORK goes on", x.told(4), 703);
        due("4: what is found again is kept again", x.told(3) > 0 ? 1 : 0, 1);
        x.clear();
        x.cube(0, 0, 0);
        runToEnd(x);
        due("4: all SHAPES", x.told(3), 11);
        NetSearch full = solid(2, 2, 2, 2, 2, 3);
        runToEnd(full);
        due("4: 64 SHAPES at most", full.forget(), 64);
        due("4: none then", full.told(3), 0);
    }

    private static void promise5Face() {
        NetSearch x = solid(1, 1, 1);
        for (int f = 0; f < 6; f++) {
            due("5: face(" + f + ", 0)", x.face(f, 0), 0);
            due("5: face(" + f + ", 1)", x.face(f, 1), f);
        }
        x.cube(0, 1, 1);
        int[] looks = {0, 2, 3, 4, 5, 1, 2, 3, 4, 5};
        for (int f = 0; f < 10; f++) {
            due("5: two cubes, face(" + f + ", 0)", x.face(f, 0), f < 5 ? 0 : 1);
            due("5: two cubes, face(" + f + ", 1)", x.face(f, 1), looks[f]);
        }
        due("5: face(10, 0)", x.face(10, 0), BAD);
        due("5: face(-1, 0)", x.face(-1, 0), BAD);
        due("5: face(0, 2)", x.face(0, 2), BAD);
        due("5: face(0, -1)", x.face(0, -1), BAD);
        for (int wild : WILD) {
            due("5: face(" + wild + ", 1)", x.face(wild, 1), BAD);
            due("5: face(1, " + wild + ")", x.face(1, wild), BAD);
        }
    }

    private static void promise6Across() {
        NetSearch one = solid(3, 0, 4);
        for (int f = 0; f < 6; f++) {
            for (int e = 0; e < 6; e++) {
                due("6: RIDGE across(" + f + ", " + e + ")", one.across(f, e), f / 2 == e / 2 ? BAD : e);
            }
        }
        NetSearch corner = solid(1, 1, 1, 2, 1, 1, 2, 2, 1);
        // Faces: 0: -x +y -y +z -z (0..4), 1: +x -y +z -z (5..8), 2: +x -x +y +z -z (9..13).
        due("6: HOLLOW, +y of the first to +x", corner.across(1, 0), 10);
        due("6: HOLLOW, and back by -y", corner.across(10, 3), 1);
        due("6: FLAT, +z of the first to +x", corner.across(3, 0), 7);
        due("6: FLAT, +x of the second to +y", corner.across(5, 2), 9);
        due("6: RIDGE, +y of the first to -x", corner.across(1, 1), 0);
        due("6: direction of the face", corner.across(1, 2), BAD);
        due("6: its opposite", corner.across(1, 3), BAD);
        due("6: across(14, 0)", corner.across(14, 0), BAD);
        NetSearch byEdge = solid(1, 1, 1, 1, 1, 2, 1, 2, 2, 2, 2, 2, 2, 2, 1);
        due("6: HOLLOW where cubes meet in an edge alone", byEdge.across(0, 2), 20);
        for (int wild : WILD) {
            due("6: across(" + wild + ", 0)", corner.across(wild, 0), BAD);
            due("6: across(0, " + wild + ")", corner.across(0, wild), BAD);
        }
        due("6: across(0, 6)", corner.across(0, 6), BAD);
        due("6: no cubes", new NetSearch().across(0, 2), BAD);
    }

    private static void promise7Trees() {
        due("7: no cubes", new NetSearch().trees(), STATE);
        due("7: a cube", solid(0, 0, 0).trees(), 384);
        due("7: two", solid(0, 0, 0, 0, 1, 0).trees(), 31500);
        due("7: a square of four", solid(0, 0, 0, 1, 0, 0, 1, 1, 0, 0, 1, 0).trees(), 29859840);
        due("7: five in a row", solid(0, 0, 0, 1, 0, 0, 2, 0, 0, 3, 0, 0, 4, 0, 0).trees(), 16864848000L);
        NetSearch ring = solid(1, 1, 1, 1, 1, 2, 1, 2, 2, 2, 2, 2, 2, 2, 1);
        due("7: a ring that is open", ring.trees(), 22055338416L);
        ring.clear();
        due("7: none again", ring.trees(), STATE);
        ring.cube(1, 1, 1);
        due("7: a smaller one behind a greater one", ring.trees(), 384);
    }

    private static void promise8Lay() {
        NetSearch x = solid(2, 2, 2);
        int[] right = {2, 4, 4, 0, 0, 2};
        int[] up = {4, 2, 0, 4, 2, 0};
        for (int f = 0; f < 6; f++) {
            due("8: lay(" + f + ")", x.lay(f), 0);
            due("8: x", x.paper(f, 0), 0);
            due("8: y", x.paper(f, 1), 0);
            due("8: RIGHT of " + f, x.paper(f, 2), right[f]);
            due("8: UP of " + f, x.paper(f, 3), up[f]);
            x.grow(f, f % 4);
            due("8: two lie", x.told(6), 2);
        }
        due("8: all goes from the paper", x.lay(5), 0);
        due("8: one lies", x.told(6), 1);
        due("8: another does not", x.paper(0, 0), NOWHERE);
        due("8: lay(6)", x.lay(6), BAD);
        due("8: lay(-1)", x.lay(-1), BAD);
        due("8: refused, it changed nothing", x.paper(5, 0), 0);
        due("8: no cubes", new NetSearch().lay(0), BAD);
        for (int wild : WILD) {
            due("8: lay(" + wild + ")", x.lay(wild), BAD);
        }
    }

    private static void place(NetSearch net, int f, int x, int y, int right, int up) {
        due("x of " + f, net.paper(f, 0), x);
        due("y of " + f, net.paper(f, 1), y);
        due("RIGHT of " + f, net.paper(f, 2), right);
        due("UP of " + f, net.paper(f, 3), up);
    }

    private static void promise9Grow() {
        NetSearch x = solid(1, 1, 1);
        due("9: nothing lies", x.grow(0, 0), STATE);
        due("9: BAD ahead of STATE", x.grow(0, 4), BAD);
        x.lay(4);
        due("9: RIDGE to the right", x.grow(4, 0), 0);
        place(x, 0, 1, 0, 5, 2);
        due("9: RIDGE upwards", x.grow(4, 1), 2);
        place(x, 2, 0, 1, 0, 5);
        due("9: RIDGE to the left", x.grow(4, 2), 1);
        place(x, 1, -1, 0, 4, 2);
        due("9: RIDGE downwards", x.grow(4, 3), 3);
        place(x, 3, 0, -1, 0, 4);
        due("9: the other one lies already", x.grow(0, 1), NO);
        due("9: back to the first", x.grow(1, 0), NO);
        due("9: the last one", x.grow(0, 0), 5);
        place(x, 5, 2, 0, 1, 2);
        due("9: all lie", x.told(6), 6);
        due("9: then NO", x.grow(5, 0), NO);
        NetSearch corner = solid(1, 1, 1, 2, 1, 1, 2, 2, 1);
        corner.lay(1);
        due("9: HOLLOW upwards", corner.grow(1, 1), 10);
        place(corner, 10, 0, 1, 4, 2);
        corner.lay(3);
        due("9: FLAT to the right", corner.grow(3, 0), 7);
        place(corner, 7, 1, 0, 0, 2);
        due("9: FLAT upwards", corner.grow(7, 1), 12);
        place(corner, 12, 1, 1, 0, 2);
        due("9: not on the paper", corner.grow(0, 0), STATE);
        for (int wild : WILD) {
            due("9: grow(" + wild + ", 0)", corner.grow(wild, 0), BAD);
            due("9: grow(3, " + wild + ")", corner.grow(3, wild), BAD);
        }
        due("9: no such face ahead of STATE", corner.grow(14, 0), BAD);
    }

    private static void promise9Overlap() {
        // Five faces meet where the corner is hollow: the fifth comes round onto the first one's place.
        NetSearch x = solid(1, 1, 1, 2, 1, 1, 2, 2, 1);
        x.lay(3);
        due("9: round the corner, second", x.grow(3, 0), 7);
        due("9: third", x.grow(7, 1), 12);
        due("9: fourth", x.grow(12, 2), 10);
        due("9: the fifth lies over face 3", x.grow(10, 3), -13);
        due("9: it is not laid", x.told(6), 4);
        due("9: it is nowhere", x.paper(1, 0), NOWHERE);
        due("9: nor over face 10, from below", x.grow(3, 1), -20);
        x.lay(12);
        x.grow(12, 3);
        x.grow(7, 2);
        x.grow(3, 1);
        due("9: over face 12", x.grow(1, 0), -22);
        NetSearch second = solid(2, 2, 1, 2, 1, 1, 1, 1, 1);
        due("9: face 0 looks +x", second.face(0, 1), 0);
        due("9: face 1 looks -x", second.face(1, 1), 1);
        second.lay(1);
        // -x of the first cube: RIGHT +z, UP +y; round the hollow corner below it.
        due("9: to +z", second.grow(1, 0), 3);
        due("9: to -y", second.grow(3, 3), 7);
        due("9: to -x", second.grow(7, 2), 12);
        due("9: over face 1", second.grow(12, 1), -11);
    }

    private static void promise10Paper() {
        NetSearch x = solid(2, 2, 2);
        due("10: nothing lies", x.paper(0, 0), NOWHERE);
        x.lay(2);
        x.grow(2, 3);
        due("10: x", x.paper(3, 0), NOWHERE);
        due("10: face 1 lies below", x.paper(1, 1), -1);
        due("10: RIGHT", x.paper(1, 2), 4);
        due("10: UP", x.paper(1, 3), 2);
        due("10: what 4", x.paper(2, 4), NOWHERE);
        due("10: what -1", x.paper(2, -1), NOWHERE);
        due("10: face 6", x.paper(6, 0), NOWHERE);
        for (int wild : WILD) {
            due("10: paper(" + wild + ", 0)", x.paper(wild, 0), NOWHERE);
            due("10: paper(2, " + wild + ")", x.paper(2, wild), NOWHERE);
        }
        x.run(500);
        due("10: the search has paper of its own", x.told(6), 2);
    }

    private static void promise11Run() {
        NetSearch x = new NetSearch();
        due("11: no cubes", x.run(1), STATE);
        due("11: BAD ahead of STATE", x.run(0), BAD);
        x.cube(2, 2, 2);
        due("11: run(0)", x.run(0), BAD);
        due("11: run(501)", x.run(501), BAD);
        for (int wild : new int[] {Integer.MIN_VALUE, -1, 1000, Integer.MAX_VALUE}) {
            due("11: run(" + wild + ")", x.run(wild), BAD);
        }
        due("11: refused, no WORK", x.told(4), 0);
        // The fifth CHOICE makes the first NET, told ahead of the sixth.
        for (int i = 0; i < 4; i++) {
            due("11: one WORK, no NET yet", x.run(1), 0);
        }
        due("11: the first NET", x.run(1), 1);
        due("11: five WORK", x.told(4), 5);
        due("11: a single run does as many", solid(1, 1, 1).run(5), 1);
        NetSearch whole = solid(0, 0, 0);
        whole.run(500);
        due("11: one less than all", whole.run(202), 384);
        due("11: not ENDED ahead of the last CHOICE", whole.told(5), 0);
        due("11: the last one makes no NET", whole.run(1), 384);
        due("11: ENDED", whole.told(5), 1);
        due("11: on and on", whole.run(500), 384);
        due("11: no more WORK", whole.told(4), 703);
        NetSearch two = solid(2, 2, 2, 2, 2, 3);
        due("11: two cubes, 500", two.run(500), 273);
        runToEnd(two);
        due("11: two cubes, all", two.told(2), 31500);
    }

    private static void promise12Told() {
        NetSearch x = solid(0, 0, 0, 0, 0, 1);
        x.run(400);
        x.run(7);
        x.lay(0);
        x.grow(0, 0);
        due("12: cubes", x.told(0), 2);
        due("12: faces", x.told(1), 10);
        due("12: NETS", x.told(2), x.run(1));
        due("12: SHAPES", x.size(x.told(3) - 1), 10);
        due("12: SHAPES, no more", x.size(x.told(3)), BAD);
        due("12: WORK", x.told(4), 408);
        due("12: not ENDED", x.told(5), 0);
        due("12: on the paper", x.told(6), 2);
        due("12: told(7)", x.told(7), BAD);
        for (int wild : WILD) {
            due("12: told(" + wild + ")", x.told(wild), BAD);
        }
        NetSearch one = solid(0, 0, 0);
        runToEnd(one);
        due("12: ENDED", one.told(5), 1);
        due("12: 11 SHAPES of a cube", one.told(3), 11);
    }

    private static void promise13Best() {
        NetSearch x = solid(2, 2, 2);
        due("13: none, width", x.best(0, 0), NONE);
        due("13: none, height", x.best(1, 0), NONE);
        due("13: none, number", x.best(2, 0), NONE);
        due("13: none, x", x.best(3, 0), NOWHERE);
        due("13: none, y", x.best(4, 0), NOWHERE);
        due("13: best(5, 0)", x.best(5, 0), BAD);
        due("13: best(-1, 0)", x.best(-1, 0), BAD);
        x.run(5);
        due("13: the first NET is the best", x.best(2, 0), 0);
        due("13: its width", x.best(0, 0) * x.best(1, 0), 12);
        runToEnd(x);
        due("13: width", x.best(0, 0), 5);
        due("13: height", x.best(1, 0), 2);
        due("13: number", x.best(2, 0), 30);
        int[] placeX = {0, 2, 1, -1, 0, -2};
        int[] placeY = {0, 0, 0, 1, 1, 1};
        for (int f = 0; f < 6; f++) {
            due("13: x of " + f, x.best(3, f), placeX[f]);
            due("13: y of " + f, x.best(4, f), placeY[f]);
        }
        due("13: no such face, x", x.best(3, 6), NOWHERE);
        due("13: no such face, y", x.best(4, -1), NOWHERE);
        for (int wild : WILD) {
            due("13: width for any face", x.best(0, wild), 5);
            due("13: number for any face", x.best(2, wild), 30);
            due("13: x of " + wild, x.best(3, wild), NOWHERE);
            due("13: best(" + wild + ", 0)", x.best(wild, 0), BAD);
        }
        x.forget();
        due("13: it stays when SHAPES go", x.best(2, 0), 30);
    }

    private static void promise14Shape() {
        NetSearch x = solid(2, 2, 2);
        due("14: no SHAPES", x.shape(0, 0, 0), BAD);
        runToEnd(x);
        int[] placeX = {1, 0, 1, 2, 3, 1};
        int[] placeY = {0, 1, 1, 1, 1, 2};
        for (int k = 0; k < 6; k++) {
            due("14: x of place " + k, x.shape(0, k, 0), placeX[k]);
            due("14: y of place " + k, x.shape(0, k, 1), placeY[k]);
        }
        for (int i = 0; i < 11; i++) {
            shapeIsInOrder(x, i);
        }
        due("14: shape(11, 0, 0)", x.shape(11, 0, 0), BAD);
        due("14: shape(0, 6, 0)", x.shape(0, 6, 0), BAD);
        due("14: shape(0, 0, 2)", x.shape(0, 0, 2), BAD);
        due("14: shape(0, 0, -1)", x.shape(0, 0, -1), BAD);
        for (int wild : WILD) {
            due("14: shape(" + wild + ", 0, 0)", x.shape(wild, 0, 0), BAD);
            due("14: shape(0, " + wild + ", 0)", x.shape(0, wild, 0), BAD);
            due("14: shape(0, 0, " + wild + ")", x.shape(0, 0, wild), BAD);
        }
        x.cube(2, 2, 1);
        due("14: SHAPES stay when there is another solid", x.shape(0, 4, 0), 3);
        x.run(5);
        x.run(500);
        due("14: new ones come behind", x.size(10), 6);
        due("14: and are of another size", x.size(11), 10);
    }

    private static void shapeIsInOrder(NetSearch x, int i) {
        int last = -1;
        int leastX = 99;
        int leastY = 99;
        for (int k = 0; k < x.size(i); k++) {
            int number = 32 * x.shape(i, k, 1) + x.shape(i, k, 0);
            due("14: numbers rise", number > last ? 1 : 0, 1);
            last = number;
            leastX = Math.min(leastX, x.shape(i, k, 0));
            leastY = Math.min(leastY, x.shape(i, k, 1));
        }
        due("14: least x", leastX, 0);
        due("14: least y", leastY, 0);
    }

    private static void promise15Size() {
        NetSearch x = solid(2, 2, 2);
        due("15: no SHAPES", x.size(0), BAD);
        x.run(5);
        due("15: one SHAPE", x.size(0), 6);
        due("15: no second one", x.size(1), BAD);
        for (int wild : WILD) {
            due("15: size(" + wild + ")", x.size(wild), BAD);
        }
        x.clear();
        due("15: it stays without cubes", x.size(0), 6);
        NetSearch five = solid(0, 0, 0, 1, 0, 0, 2, 0, 0, 3, 0, 0, 4, 0, 0);
        for (int i = 0; i < 3; i++) {
            five.run(500);
        }
        due("15: 22 places", five.size(63), 22);
        due("15: 64 at most", five.size(64), BAD);
    }

    private static void promise16Wraps() {
        NetSearch x = new NetSearch();
        due("16: BAD ahead of STATE", x.wraps(0), BAD);
        x.cube(2, 2, 2);
        due("16: no SHAPES", x.wraps(0), BAD);
        runToEnd(x);
        for (int i = 0; i < 11; i++) {
            due("16: each of a cube's", x.wraps(i), 48);
        }
        for (int wild : WILD) {
            due("16: wraps(" + wild + ")", x.wraps(wild), BAD);
        }
        x.cube(2, 2, 3);
        due("16: too few places", x.wraps(0), 0);
        x.clear();
        due("16: no cubes", x.wraps(0), STATE);
        due("16: no cubes, no such SHAPE", x.wraps(11), BAD);
        NetSearch row = solid(0, 0, 0, 1, 0, 0, 2, 0, 0);
        row.run(500);
        int own = row.wraps(0);
        due("16: a row's own", own, 16);
        row.clear();
        build(row, 3, 3, 0, 3, 3, 1, 3, 3, 2);
        due("16: the row turned", row.wraps(0), own);
        // Nets of the ring all have faces side by side on paper that are not so on the solid.
        NetSearch ring = solid(1, 1, 1, 1, 1, 2, 1, 2, 2, 2, 2, 2, 2, 2, 1);
        ring.run(500);
        due("16: places beside one another must be so on the solid", ring.wraps(0), 0);
    }

    private static void newCubeBeginsAnew() {
        NetSearch x = solid(2, 2, 2);
        x.run(500);
        x.lay(1);
        int shapes = x.told(3);
        x.cube(3, 2, 2);
        due("a new cube: NETS", x.told(2), 0);
        due("a new cube: SHAPES", x.told(3), shapes);
        due("a new cube: WORK", x.told(4), 0);
        due("a new cube: paper", x.told(6), 0);
        due("a new cube: a face on the paper", x.paper(1, 0), NOWHERE);
        due("a new cube: grow", x.grow(1, 0), STATE);
        due("a new cube: best", x.best(2, 0), NONE);
        NetSearch ended = solid(2, 2, 2);
        runToEnd(ended);
        ended.cube(2, 2, 3);
        due("a new cube: ENDED no more", ended.told(5), 0);
        due("a new cube: its search", ended.run(500), 273);
    }

    private static void refusalsChangeNothing() {
        NetSearch x = solid(2, 2, 2);
        x.run(100);
        x.lay(4);
        x.grow(4, 0);
        int[] before = state(x);
        x.cube(5, 0, 0);
        x.cube(2, 2, 2);
        x.cube(0, 0, 0);
        x.lay(6);
        x.grow(4, 0);
        x.grow(4, 4);
        x.grow(2, 0);
        x.run(0);
        x.run(501);
        int[] after = state(x);
        for (int i = 0; i < before.length; i++) {
            due("refusals change nothing, " + i, after[i], before[i]);
        }
        NetSearch straight = solid(2, 2, 2);
        straight.run(100);
        due("refusals change nothing, the search", x.run(77), straight.run(77));
    }

    private static int[] state(NetSearch x) {
        int[] told = new int[16];
        for (int what = 0; what <= 6; what++) {
            told[what] = x.told(what);
        }
        told[7] = x.paper(4, 0);
        told[8] = x.paper(0, 0);
        told[9] = x.best(2, 0);
        return told;
    }
}
