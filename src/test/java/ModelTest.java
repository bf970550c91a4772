import java.math.BigInteger;
import java.util.ArrayList;
import java.util.Arrays;
import java.util.HashMap;
import java.util.LinkedHashSet;
import java.util.List;
import java.util.Map;
import java.util.Set;

/**
 * Runs of calls, each answered by NetSearch and by a plain model that shares none of its ways:
 * faces and edges are points in space, the search is a recursion, numbers are big.
 */
public final class ModelTest {
    private static final int RUNS = 60;
    private static final int CALLS = 512;
    private static int wrong = 0;
    private static long seed = 20261116L;

    public static void main(String[] args) {
        for (int run = 0; run < RUNS && wrong < 20; run++) {
            mixedRun(run);
        }
        for (int run = 0; run < RUNS && wrong < 20; run++) {
            wrappingRun(run);
        }
        System.out.println(wrong == 0 ? "all answers are as the model's" : wrong + " answers differ");
        if (wrong != 0) {
            System.exit(1);
        }
    }

    /** The same numbers in every run of the test. */
    private static int pick(int bound) {
        seed = seed * 6364136223846793005L + 1442695040888963407L;
        return (int) Math.floorMod(seed >>> 33, (long) bound);
    }

    /** Mostly 0 .. bound - 1, now and then a little or far outside. */
    private static int loose(int bound) {
        int kind = pick(40);
        if (kind == 0) {
            return -1 - pick(3);
        }
        if (kind == 1) {
            return bound + pick(3);
        }
        if (kind == 2) {
            return pick(2) == 0 ? Integer.MIN_VALUE : Integer.MAX_VALUE;
        }
        return pick(Math.max(1, bound));
    }

    private static void same(int run, String call, long got, long want) {
        if (got != want) {
            wrong++;
            System.out.println("run " + run + ": " + call + " answered " + got + ", the model " + want);
        }
    }

    private static void mixedRun(int run) {
        NetSearch real = new NetSearch();
        Model model = new Model();
        for (int i = 0; i < CALLS && wrong < 20; i++) {
            int kind = pick(100);
            if (kind < 8) {
                cube(run, real, model, loose(5), loose(5), loose(5));
            } else if (kind < 12) {
                joinCube(run, real, model);
            } else if (kind < 13) {
                same(run, "clear()", real.clear(), model.clear());
            } else if (kind < 14) {
                same(run, "forget()", real.forget(), model.forget());
            } else if (kind < 30) {
                int f = loose(model.faces.size());
                int side = loose(4);
                same(run, "grow(" + f + ", " + side + ")", real.grow(f, side), model.grow(f, side));
            } else if (kind < 45) {
                growLaid(run, real, model);
            } else {
                ask(run, real, model, kind);
            }
        }
    }

    private static void cube(int run, NetSearch real, Model model, int x, int y, int z) {
        same(run, "cube(" + x + ", " + y + ", " + z + ")", real.cube(x, y, z), model.cube(x, y, z));
    }

    private static void joinCube(int run, NetSearch real, Model model) {
        if (model.cubes.isEmpty()) {
            cube(run, real, model, pick(5), pick(5), pick(5));
            return;
        }
        int[] beside = model.cubes.get(pick(model.cubes.size()));
        int[] at = Model.plus(beside, Model.WAYS[pick(6)]);
        cube(run, real, model, at[0], at[1], at[2]);
    }

    private static void growLaid(int run, NetSearch real, Model model) {
        if (model.hand.isEmpty()) {
            int f = loose(model.faces.size());
            same(run, "lay(" + f + ")", real.lay(f), model.lay(f));
            return;
        }
        List<Integer> laid = new ArrayList<>(model.hand.keySet());
        int f = laid.get(pick(laid.size()));
        int side = pick(4);
        same(run, "grow(" + f + ", " + side + ")", real.grow(f, side), model.grow(f, side));
    }

    private static void ask(int run, NetSearch real, Model model, int kind) {
        int faces = model.faces.size();
        int shapes = model.shapes.size();
        int f = loose(faces);
        int i = loose(shapes);
        int k = loose(shapes == 0 ? 1 : 22);
        int what = loose(7);
        switch (kind % 11) {
            case 0 -> same(run, "face", real.face(f, what), model.face(f, what));
            case 1 -> same(run, "across", real.across(f, what), model.across(f, what));
            case 2 -> same(run, "trees", real.trees(), model.trees());
            case 3 -> same(run, "paper", real.paper(f, what), model.paper(f, what));
            case 4 -> {
                int work = pick(3) == 0 ? loose(501) : 1 + pick(20);
                same(run, "run(" + work + ")", real.run(work), model.run(work));
            }
            case 5 -> same(run, "told(" + what + ")", real.told(what), model.told(what));
            case 6 -> same(run, "best(" + what + ", " + f + ")", real.best(what, f), model.best(what, f));
            case 7 -> {
                int part = loose(2);
                same(run, "shape", real.shape(i, k, part), model.shape(i, k, part));
            }
            case 8 -> same(run, "size", real.size(i), model.size(i));
            case 9 -> same(run, "wraps(" + i + ")", real.wraps(i), model.wraps(i));
            default -> {
                if (pick(4) == 0) {
                    same(run, "lay(" + f + ")", real.lay(f), model.lay(f));
                }
            }
        }
    }

    /** A solid is searched, then every shape is tried on it and on others; at most 132 calls for each of three. */
    private static void wrappingRun(int run) {
        NetSearch real = new NetSearch();
        Model model = new Model();
        for (int solids = 0; solids < 3 && wrong < 20; solids++) {
            same(run, "clear()", real.clear(), model.clear());
            int cubes = 1 + pick(5);
            for (int tries = 0; tries < 20 && model.cubes.size() < cubes; tries++) {
                joinCube(run, real, model);
            }
            same(run, "trees()", real.trees(), model.trees());
            for (int i = 0; i < 3; i++) {
                same(run, "run(500)", real.run(500), model.run(500));
            }
            for (int i = 0; i <= model.shapes.size(); i++) {
                same(run, "wraps(" + i + ")", real.wraps(i), model.wraps(i));
            }
            for (int i = pick(8); i <= model.shapes.size(); i += 8) {
                same(run, "size(" + i + ")", real.size(i), model.size(i));
                int k = pick(22);
                same(run, "shape", real.shape(i, k, 0), model.shape(i, k, 0));
                same(run, "shape", real.shape(i, k, 1), model.shape(i, k, 1));
            }
            for (int what = 0; what <= 6; what++) {
                same(run, "told(" + what + ")", real.told(what), model.told(what));
                same(run, "best(" + what + ")", real.best(what, what), model.best(what, what));
            }
            if (pick(3) == 0) {
                same(run, "forget()", real.forget(), model.forget());
            }
        }
    }

    /** A face: its cube, the way that it looks; points are doubled so that middles are whole. */
    private record Face(int cube, int way, int[] middle, int[] outside) { }

    /** A face on paper, with RIGHT and UP as steps in space. */
    private record Laid(int x, int y, int[] right, int[] up) { }

    private static final class Enough extends RuntimeException {
        private static final long serialVersionUID = 1L;
    }

    private static final class Model {
        static final int[][] WAYS = {{1, 0, 0}, {-1, 0, 0}, {0, 1, 0}, {0, -1, 0}, {0, 0, 1}, {0, 0, -1}};
        private static final int[][] FIRST = {{2, 4}, {4, 2}, {4, 0}, {0, 4}, {0, 2}, {2, 0}};
        private static final int[] TO_X = {1, 0, -1, 0};
        private static final int[] TO_Y = {0, 1, 0, -1};

        final List<int[]> cubes = new ArrayList<>();
        final List<Face> faces = new ArrayList<>();
        final Map<Integer, Laid> hand = new HashMap<>();
        final List<List<Integer>> shapes = new ArrayList<>();
        private final Map<Integer, Integer> overEdge = new HashMap<>();
        private int nets;
        private int work;
        private boolean ended;
        private int[] best;
        private Map<Integer, Laid> bestNet;

        static int[] plus(int[] one, int[] other) {
            return new int[] {one[0] + other[0], one[1] + other[1], one[2] + other[2]};
        }

        private static int[] times(int factor, int[] one) {
            return new int[] {factor * one[0], factor * one[1], factor * one[2]};
        }

        private static int[] minus(int[] one, int[] other) {
            return plus(one, times(-1, other));
        }

        private static int wayOf(int[] step) {
            for (int way = 0; way < 6; way++) {
                if (Arrays.equals(WAYS[way], step)) {
                    return way;
                }
            }
            throw new IllegalStateException("no such way");
        }

        private boolean isCube(int[] at) {
            return cubes.stream().anyMatch(c -> Arrays.equals(c, at));
        }

        private boolean isFace(int f) {
            return f >= 0 && f < faces.size();
        }

        private void anew() {
            faces.clear();
            overEdge.clear();
            hand.clear();
            nets = 0;
            work = 0;
            ended = false;
            best = null;
            bestNet = null;
            for (int c = 0; c < cubes.size(); c++) {
                for (int way = 0; way < 6; way++) {
                    int[] outside = plus(cubes.get(c), WAYS[way]);
                    if (!isCube(outside)) {
                        faces.add(new Face(c, way, plus(times(2, cubes.get(c)), WAYS[way]), outside));
                    }
                }
            }
        }

        int cube(int x, int y, int z) {
            for (int part : new int[] {x, y, z}) {
                if (part < 0 || part > 4) {
                    return -1;
                }
            }
            int[] at = {x, y, z};
            boolean joins = cubes.isEmpty();
            for (int[] way : WAYS) {
                joins |= isCube(plus(at, way));
            }
            if (isCube(at) || !joins) {
                return -3;
            }
            if (cubes.size() == 5) {
                return -4;
            }
            cubes.add(at);
            anew();
            return faces.size();
        }

        int clear() {
            int had = cubes.size();
            cubes.clear();
            anew();
            return had;
        }

        int forget() {
            int had = shapes.size();
            shapes.clear();
            return had;
        }

        int face(int f, int what) {
            if (!isFace(f) || what < 0 || what > 1) {
                return -1;
            }
            return what == 0 ? faces.get(f).cube() : faces.get(f).way();
        }

        int across(int f, int e) {
            if (!isFace(f) || e < 0 || e > 5 || e / 2 == faces.get(f).way() / 2) {
                return -1;
            }
            return over(f, WAYS[e]);
        }

        /** Looked up, since the recursion asks for the same edges over and over. */
        private int over(int f, int[] step) {
            return overEdge.computeIfAbsent(6 * f + wayOf(step), key -> findOver(f, step));
        }

        /** Of the faces at that edge: one that looks into the same empty room, else the other one. */
        private int findOver(int f, int[] step) {
            int[] edge = plus(faces.get(f).middle(), step);
            List<Integer> there = new ArrayList<>();
            for (int g = 0; g < faces.size(); g++) {
                int[] apart = minus(faces.get(g).middle(), edge);
                int far = Math.abs(apart[0]) + Math.abs(apart[1]) + Math.abs(apart[2]);
                if (g != f && far == 1) {
                    there.add(g);
                }
            }
            if (there.size() == 1) {
                return there.get(0);
            }
            for (int g : there) {
                if (Arrays.equals(faces.get(g).outside(), faces.get(f).outside())) {
                    return g;
                }
            }
            throw new IllegalStateException("an edge without a second face");
        }

        long trees() {
            if (cubes.isEmpty()) {
                return -2;
            }
            int n = faces.size() - 1;
            BigInteger[][] m = new BigInteger[n][n];
            for (int i = 0; i < n; i++) {
                Arrays.fill(m[i], BigInteger.ZERO);
                m[i][i] = BigInteger.valueOf(4);
                for (int e = 0; e < 6; e++) {
                    int j = across(i, e);
                    if (j >= 0 && j < n) {
                        m[i][j] = m[i][j].subtract(BigInteger.ONE);
                    }
                }
            }
            return determinant(m).longValueExact();
        }

        /** By whole numbers alone (Bareiss); the leading minors of such a matrix are not 0. */
        private static BigInteger determinant(BigInteger[][] m) {
            BigInteger before = BigInteger.ONE;
            int n = m.length;
            for (int k = 0; k < n - 1; k++) {
                for (int i = k + 1; i < n; i++) {
                    for (int j = k + 1; j < n; j++) {
                        m[i][j] = m[i][j].multiply(m[k][k]).subtract(m[i][k].multiply(m[k][j])).divide(before);
                    }
                }
                before = m[k][k];
            }
            return m[n - 1][n - 1];
        }

        private Laid firstOf(int f) {
            int[] way = FIRST[faces.get(f).way()];
            return new Laid(0, 0, WAYS[way[0]], WAYS[way[1]]);
        }

        private static int[] stepTo(Laid one, int side) {
            int[] along = side % 2 == 0 ? one.right() : one.up();
            return side < 2 ? along : times(-1, along);
        }

        /** How the face over that side lies: the step leads on from the edge to its middle. */
        private Laid layOver(int f, Laid one, int side) {
            int[] step = stepTo(one, side);
            int[] edge = plus(faces.get(f).middle(), step);
            int[] onward = minus(faces.get(over(f, step)).middle(), edge);
            int[] along = side < 2 ? onward : times(-1, onward);
            return new Laid(one.x() + TO_X[side], one.y() + TO_Y[side],
                    side % 2 == 0 ? along : one.right(), side % 2 == 0 ? one.up() : along);
        }

        private static int under(Map<Integer, Laid> sheet, int x, int y) {
            for (Map.Entry<Integer, Laid> entry : sheet.entrySet()) {
                if (entry.getValue().x() == x && entry.getValue().y() == y) {
                    return entry.getKey();
                }
            }
            return -1;
        }

        int lay(int f) {
            if (!isFace(f)) {
                return -1;
            }
            hand.clear();
            hand.put(f, firstOf(f));
            return 0;
        }

        int grow(int f, int side) {
            if (!isFace(f) || side < 0 || side > 3) {
                return -1;
            }
            if (!hand.containsKey(f)) {
                return -2;
            }
            int other = over(f, stepTo(hand.get(f), side));
            if (hand.containsKey(other)) {
                return -3;
            }
            Laid there = layOver(f, hand.get(f), side);
            int under = under(hand, there.x(), there.y());
            if (under >= 0) {
                return -10 - under;
            }
            hand.put(other, there);
            return other;
        }

        int paper(int f, int what) {
            if (!isFace(f) || !hand.containsKey(f) || what < 0 || what > 3) {
                return -1000;
            }
            Laid one = hand.get(f);
            return new int[] {one.x(), one.y(), wayOf(one.right()), wayOf(one.up())}[what];
        }

        int run(int more) {
            if (more < 1 || more > 500) {
                return -1;
            }
            if (cubes.isEmpty()) {
                return -2;
            }
            if (ended) {
                return nets;
            }
            // The whole search is gone through again, and what is known of it is passed over.
            Recursion search = new Recursion(work, work + more);
            try {
                search.from(0);
                ended = true;
            } catch (Enough enough) {
                ended = false;
            }
            work = search.choices;
            return nets;
        }

        private final class Recursion {
            private final int known;
            private final int most;
            private int choices;
            private int found;
            private final List<Integer> order = new ArrayList<>();
            private final Map<Integer, Laid> sheet = new HashMap<>();

            Recursion(int known, int most) {
                this.known = known;
                this.most = most;
                order.add(0);
                sheet.put(0, firstOf(0));
            }

            void from(int step) {
                if (step == 4 * order.size()) {
                    if (order.size() == faces.size()) {
                        found++;
                        if (found > nets) {
                            takeNet(sheet);
                        }
                    }
                    return;
                }
                int f = order.get(step / 4);
                int side = step % 4;
                int other = over(f, stepTo(sheet.get(f), side));
                Laid there = layOver(f, sheet.get(f), side);
                if (!sheet.containsKey(other) && under(sheet, there.x(), there.y()) < 0) {
                    if (choices == most) {
                        throw new Enough();
                    }
                    choices++;
                    order.add(other);
                    sheet.put(other, there);
                    from(step + 1);
                    order.remove(order.size() - 1);
                    sheet.remove(other);
                }
                from(step + 1);
            }
        }

        private void takeNet(Map<Integer, Laid> sheet) {
            int wide = spread(sheet.values().stream().mapToInt(Laid::x).toArray());
            int high = spread(sheet.values().stream().mapToInt(Laid::y).toArray());
            if (best == null || wide * high < best[0] * best[1]) {
                best = new int[] {wide, high, nets};
                bestNet = new HashMap<>(sheet);
            }
            nets++;
            List<Integer> row = leastRow(sheet);
            if (shapes.size() < 64 && !shapes.contains(row)) {
                shapes.add(row);
            }
        }

        private static int spread(int[] parts) {
            return Arrays.stream(parts).max().getAsInt() - Arrays.stream(parts).min().getAsInt() + 1;
        }

        private static int[] image(int m, int x, int y) {
            return new int[][] {{x, y}, {y, x}, {-x, y}, {-y, x}, {x, -y}, {y, -x}, {-x, -y}, {-y, -x}}[m];
        }

        private static List<Integer> leastRow(Map<Integer, Laid> sheet) {
            List<Integer> least = null;
            for (int m = 0; m < 8; m++) {
                List<int[]> moved = new ArrayList<>();
                for (Laid one : sheet.values()) {
                    moved.add(image(m, one.x(), one.y()));
                }
                int left = moved.stream().mapToInt(p -> p[0]).min().getAsInt();
                int low = moved.stream().mapToInt(p -> p[1]).min().getAsInt();
                List<Integer> row = new ArrayList<>();
                for (int[] p : moved) {
                    row.add(32 * (p[1] - low) + p[0] - left);
                }
                row.sort(null);
                if (least == null || isLess(row, least)) {
                    least = row;
                }
            }
            return least;
        }

        private static boolean isLess(List<Integer> one, List<Integer> other) {
            for (int k = 0; k < one.size(); k++) {
                if (!one.get(k).equals(other.get(k))) {
                    return one.get(k) < other.get(k);
                }
            }
            return false;
        }

        int told(int what) {
            int[] all = {cubes.size(), faces.size(), nets, shapes.size(), work, ended ? 1 : 0, hand.size()};
            return what < 0 || what > 6 ? -1 : all[what];
        }

        int best(int what, int f) {
            if (what < 0 || what > 4) {
                return -1;
            }
            if (what < 3) {
                return best == null ? -9 : best[what];
            }
            if (best == null || !isFace(f)) {
                return -1000;
            }
            return what == 3 ? bestNet.get(f).x() : bestNet.get(f).y();
        }

        int shape(int i, int k, int what) {
            if (i < 0 || i >= shapes.size() || k < 0 || k >= shapes.get(i).size() || what < 0 || what > 1) {
                return -1;
            }
            int number = shapes.get(i).get(k);
            return what == 0 ? number % 32 : number / 32;
        }

        int size(int i) {
            return i < 0 || i >= shapes.size() ? -1 : shapes.get(i).size();
        }

        int wraps(int i) {
            if (i < 0 || i >= shapes.size()) {
                return -1;
            }
            if (cubes.isEmpty()) {
                return -2;
            }
            if (shapes.get(i).size() != faces.size()) {
                return 0;
            }
            int ways = 0;
            for (int f = 0; f < faces.size(); f++) {
                for (int m = 0; m < 8; m++) {
                    ways += wrapsBy(shapes.get(i), f, m) ? 1 : 0;
                }
            }
            return ways;
        }

        /** All places get a face along some way from the first; then every two neighbours are looked at. */
        private boolean wrapsBy(List<Integer> row, int first, int m) {
            Map<List<Integer>, Integer> on = new HashMap<>();
            Map<List<Integer>, Laid> how = new HashMap<>();
            Set<List<Integer>> places = new LinkedHashSet<>();
            int[] zero = image(m, row.get(0) % 32, row.get(0) / 32);
            for (int number : row) {
                int[] p = image(m, number % 32, number / 32);
                places.add(List.of(p[0] - zero[0], p[1] - zero[1]));
            }
            on.put(List.of(0, 0), first);
            how.put(List.of(0, 0), firstOf(first));
            for (int round = 0; round < places.size() && on.size() < places.size(); round++) {
                for (List<Integer> p : places) {
                    for (int side = 0; side < 4 && on.containsKey(p); side++) {
                        List<Integer> q = List.of(p.get(0) + TO_X[side], p.get(1) + TO_Y[side]);
                        if (places.contains(q) && !on.containsKey(q)) {
                            on.put(q, over(on.get(p), stepTo(how.get(p), side)));
                            how.put(q, layOver(on.get(p), how.get(p), side));
                        }
                    }
                }
            }
            return on.values().stream().distinct().count() == faces.size() && allFit(places, on, how);
        }

        private boolean allFit(Set<List<Integer>> places, Map<List<Integer>, Integer> on,
                Map<List<Integer>, Laid> how) {
            for (List<Integer> p : places) {
                for (int side = 0; side < 4; side++) {
                    List<Integer> q = List.of(p.get(0) + TO_X[side], p.get(1) + TO_Y[side]);
                    if (!on.containsKey(q)) {
                        continue;
                    }
                    Laid there = layOver(on.get(p), how.get(p), side);
                    if (on.get(q) != over(on.get(p), stepTo(how.get(p), side))
                            || !Arrays.equals(there.right(), how.get(q).right())
                            || !Arrays.equals(there.up(), how.get(q).up())) {
                        return false;
                    }
                }
            }
            return true;
        }
    }
}
