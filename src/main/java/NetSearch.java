import java.util.Arrays;

/** Solids of up to five cubes, their unfoldings by hand and by search, and the shapes of their nets. */
public final class NetSearch {
    public static final int BAD = -1, STATE = -2, NO = -3, FULL = -4, NONE = -9;

    private static final int NOWHERE = -1000;
    private static final int OVERLAP = -10;

    private static final int ROOM = 5;
    private static final int MOST_CUBES = 5;
    private static final int DIRECTIONS = 6;
    /** Five cubes have 30 faces; each of the four that joined another hides two at least. */
    private static final int MOST_FACES = 22;
    private static final int SIDES = 4;
    private static final int IMAGES = 8;
    private static final int MOST_SHAPES = 64;
    private static final int MOST_WORK = 500;

    private static final int[] STEP_X = {1, -1, 0, 0, 0, 0};
    private static final int[] STEP_Y = {0, 0, 1, -1, 0, 0};
    private static final int[] STEP_Z = {0, 0, 0, 0, 1, -1};

    private static final int[] FIRST_RIGHT = {2, 4, 4, 0, 0, 2};
    private static final int[] FIRST_UP = {4, 2, 0, 4, 2, 0};

    // Right, up, left, down: side ^ 2 is the opposite one, side ^ 1 one of the two beside it.
    private static final int[] SIDE_X = {1, 0, -1, 0};
    private static final int[] SIDE_Y = {0, 1, 0, -1};

    // Image m has the place x, y at X_OF_X[m] x + X_OF_Y[m] y, Y_OF_X[m] x + Y_OF_Y[m] y.
    private static final int[] X_OF_X = {1, 0, -1, 0, 1, 0, -1, 0};
    private static final int[] X_OF_Y = {0, 1, 0, -1, 0, 1, 0, -1};
    private static final int[] Y_OF_X = {0, 1, 0, 1, 0, -1, 0, -1};
    private static final int[] Y_OF_Y = {1, 0, 1, 0, -1, 0, -1, 0};

    private final Solid solid;
    private final TreeCounter treeCounter;
    private final Sheet hand;
    private final Album album;
    private final Search search;
    private final Wrapping wrapping;

    public NetSearch() {
        Solid made = new Solid();
        Album pages = new Album();
        solid = made;
        treeCounter = new TreeCounter(made);
        hand = new Sheet(made);
        album = pages;
        search = new Search(made, pages);
        wrapping = new Wrapping(made, pages);
    }

    public int cube(int x, int y, int z) {
        if (!inRoom(x) || !inRoom(y) || !inRoom(z)) {
            return BAD;
        }
        if (solid.cubeAt(x, y, z) >= 0 || !solid.canJoin(x, y, z)) {
            return NO;
        }
        if (solid.cubes >= MOST_CUBES) {
            return FULL;
        }
        solid.add(x, y, z);
        beginAnew();
        return solid.faces;
    }

    public int clear() {
        int had = solid.cubes;
        solid.removeAll();
        beginAnew();
        return had;
    }

    public int forget() {
        int had = album.count;
        album.count = 0;
        return had;
    }

    public int face(int f, int what) {
        if (!isFace(f)) {
            return BAD;
        }
        switch (what) {
            case 0: return solid.cubeOf[f];
            case 1: return solid.lookOf[f];
            default: return BAD;
        }
    }

    public int across(int f, int e) {
        if (!isFace(f) || e < 0 || e >= DIRECTIONS || sameAxis(e, solid.lookOf[f])) {
            return BAD;
        }
        return solid.beyond(f, e);
    }

    public long trees() {
        return solid.cubes == 0 ? STATE : treeCounter.count();
    }

    // ---- by hand

    public int lay(int f) {
        if (!isFace(f)) {
            return BAD;
        }
        hand.wipe();
        hand.putFirst(f);
        return 0;
    }

    public int grow(int f, int side) {
        if (!isFace(f) || side < 0 || side >= SIDES) {
            return BAD;
        }
        if (!hand.lies[f]) {
            return STATE;
        }
        int other = hand.neighbour(f, side);
        if (hand.lies[other]) {
            return NO;
        }
        int under = hand.faceAt(hand.x[f] + SIDE_X[side], hand.y[f] + SIDE_Y[side]);
        if (under >= 0) {
            return OVERLAP - under;
        }
        hand.putBeside(f, side);
        return other;
    }

    public int paper(int f, int what) {
        if (!isFace(f) || !hand.lies[f]) {
            return NOWHERE;
        }
        switch (what) {
            case 0: return hand.x[f];
            case 1: return hand.y[f];
            case 2: return hand.heading(f, 0);
            case 3: return hand.heading(f, 1);
            default: return NOWHERE;
        }
    }

    // ---- the search

    public int run(int work) {
        if (work < 1 || work > MOST_WORK) {
            return BAD;
        }
        if (solid.cubes == 0) {
            return STATE;
        }
        search.goOn(work);
        return search.nets;
    }

    public int told(int what) {
        switch (what) {
            case 0: return solid.cubes;
            case 1: return solid.faces;
            case 2: return search.nets;
            case 3: return album.count;
            case 4: return search.work;
            case 5: return search.ended ? 1 : 0;
            case 6: return hand.count;
            default: return BAD;
        }
    }

    public int best(int what, int f) {
        BestNet net = search.bestNet;
        boolean placed = net.found && isFace(f);
        switch (what) {
            case 0: return net.found ? net.width : NONE;
            case 1: return net.found ? net.height : NONE;
            case 2: return net.found ? net.number : NONE;
            case 3: return placed ? net.x[f] : NOWHERE;
            case 4: return placed ? net.y[f] : NOWHERE;
            default: return BAD;
        }
    }

    public int shape(int i, int k, int what) {
        if (!isShape(i) || k < 0 || k >= album.places[i]) {
            return BAD;
        }
        switch (what) {
            case 0: return album.placeX(i, k);
            case 1: return album.placeY(i, k);
            default: return BAD;
        }
    }

    public int size(int i) {
        return isShape(i) ? album.places[i] : BAD;
    }

    public int wraps(int i) {
        if (!isShape(i)) {
            return BAD;
        }
        return solid.cubes == 0 ? STATE : wrapping.countWays(i);
    }

    private void beginAnew() {
        hand.wipe();
        search.restart();
    }

    private boolean isFace(int f) {
        return f >= 0 && f < solid.faces;
    }

    private boolean isShape(int i) {
        return i >= 0 && i < album.count;
    }

    private static boolean inRoom(int place) {
        return place >= 0 && place < ROOM;
    }

    private static int opposite(int direction) {
        return direction ^ 1;
    }

    private static boolean sameAxis(int one, int other) {
        return one >> 1 == other >> 1;
    }

    private static int least(int[] row, int length) {
        int found = row[0];
        for (int i = 1; i < length; i++) {
            if (row[i] < found) {
                found = row[i];
            }
        }
        return found;
    }

    private static int most(int[] row, int length) {
        int found = row[0];
        for (int i = 1; i < length; i++) {
            if (row[i] > found) {
                found = row[i];
            }
        }
        return found;
    }

    /** The cubes, their faces, and what lies across each edge of a face. */
    private static final class Solid {
        int cubes;
        int faces;
        final int[] cubeOf = new int[MOST_FACES];
        final int[] lookOf = new int[MOST_FACES];
        private final int[] x = new int[MOST_CUBES];
        private final int[] y = new int[MOST_CUBES];
        private final int[] z = new int[MOST_CUBES];
        private final int[] faceOf = new int[MOST_CUBES * DIRECTIONS];
        // Edges are kept ready, since the search asks for them at every step.
        private final int[] beyondEdge = new int[MOST_FACES * DIRECTIONS];
        private final int[] onwardEdge = new int[MOST_FACES * DIRECTIONS];

        int cubeAt(int px, int py, int pz) {
            for (int c = 0; c < cubes; c++) {
                if (x[c] == px && y[c] == py && z[c] == pz) {
                    return c;
                }
            }
            return -1;
        }

        boolean canJoin(int px, int py, int pz) {
            boolean beside = cubes == 0;
            for (int d = 0; d < DIRECTIONS && !beside; d++) {
                beside = cubeAt(px + STEP_X[d], py + STEP_Y[d], pz + STEP_Z[d]) >= 0;
            }
            return beside;
        }

        void add(int px, int py, int pz) {
            x[cubes] = px;
            y[cubes] = py;
            z[cubes] = pz;
            cubes++;
            numberFaces();
            joinFaces();
        }

        void removeAll() {
            cubes = 0;
            faces = 0;
        }

        /** The face across direction e, which is neither the face's own nor the opposite. */
        int beyond(int f, int e) {
            return beyondEdge[f * DIRECTIONS + e];
        }

        /** The direction as which e leads on along the face beyond. */
        int onward(int f, int e) {
            return onwardEdge[f * DIRECTIONS + e];
        }

        private void numberFaces() {
            faces = 0;
            for (int c = 0; c < cubes; c++) {
                for (int d = 0; d < DIRECTIONS; d++) {
                    if (cubeFrom(c, d) < 0) {
                        faceOf[c * DIRECTIONS + d] = faces;
                        cubeOf[faces] = c;
                        lookOf[faces] = d;
                        faces++;
                    }
                }
            }
        }

        private void joinFaces() {
            for (int f = 0; f < faces; f++) {
                for (int e = 0; e < DIRECTIONS; e++) {
                    if (!sameAxis(e, lookOf[f])) {
                        joinAcross(f, e);
                    }
                }
            }
        }

        private void joinAcross(int f, int e) {
            int c = cubeOf[f];
            int d = lookOf[f];
            int hollow = cubeAt(x[c] + STEP_X[e] + STEP_X[d],
                    y[c] + STEP_Y[e] + STEP_Y[d], z[c] + STEP_Z[e] + STEP_Z[d]);
            int flat = cubeFrom(c, e);
            if (hollow >= 0) {
                setEdge(f, e, faceOf[hollow * DIRECTIONS + opposite(e)], d);
            } else if (flat >= 0) {
                setEdge(f, e, faceOf[flat * DIRECTIONS + d], e);
            } else {
                setEdge(f, e, faceOf[c * DIRECTIONS + e], opposite(d));
            }
        }

        private void setEdge(int f, int e, int other, int leadsOn) {
            beyondEdge[f * DIRECTIONS + e] = other;
            onwardEdge[f * DIRECTIONS + e] = leadsOn;
        }

        private int cubeFrom(int c, int d) {
            return cubeAt(x[c] + STEP_X[d], y[c] + STEP_Y[d], z[c] + STEP_Z[d]);
        }
    }

    /**
     * Counts trees as a determinant (Kirchhoff). It is reckoned modulo 2^64, where a row whose head
     * has the fewest factors of two clears the heads of the others without a rest; so numbers may
     * wrap around on the way, and the answer, far below 2^63, is whole.
     */
    private static final class TreeCounter {
        private static final int WIDTH = MOST_FACES - 1;

        private final Solid solid;
        private final long[] matrix = new long[WIDTH * WIDTH];

        TreeCounter(Solid solid) {
            this.solid = solid;
        }

        long count() {
            // The last face's row and column are left out, as the theorem asks.
            int n = solid.faces - 1;
            fillMatrix(n);
            long product = 1;
            for (int i = 0; i < n; i++) {
                int pivot = findPivot(i, n);
                if (pivot != i) {
                    swapRows(pivot, i, n);
                    product = -product;
                }
                product *= matrix[i * WIDTH + i];
                clearBelow(i, n);
            }
            return product;
        }

        private void fillMatrix(int n) {
            Arrays.fill(matrix, 0L);
            for (int i = 0; i < n; i++) {
                for (int e = 0; e < DIRECTIONS; e++) {
                    if (!sameAxis(e, solid.lookOf[i])) {
                        addEdge(i, solid.beyond(i, e), n);
                    }
                }
            }
        }

        private void addEdge(int i, int j, int n) {
            matrix[i * WIDTH + i]++;
            if (j < n) {
                matrix[i * WIDTH + j]--;
            }
        }

        private int findPivot(int column, int n) {
            int found = column;
            for (int row = column + 1; row < n; row++) {
                if (twosIn(matrix[row * WIDTH + column]) < twosIn(matrix[found * WIDTH + column])) {
                    found = row;
                }
            }
            return found;
        }

        private void swapRows(int one, int other, int n) {
            for (int j = 0; j < n; j++) {
                long kept = matrix[one * WIDTH + j];
                matrix[one * WIDTH + j] = matrix[other * WIDTH + j];
                matrix[other * WIDTH + j] = kept;
            }
        }

        private void clearBelow(int i, int n) {
            long head = matrix[i * WIDTH + i];
            int twos = twosIn(head);
            long inverse = inverseOfOdd(head >> twos);
            for (int row = i + 1; row < n; row++) {
                long factor = (matrix[row * WIDTH + i] >> twos) * inverse;
                for (int j = i; j < n && factor != 0; j++) {
                    matrix[row * WIDTH + j] -= factor * matrix[i * WIDTH + j];
                }
            }
        }

        private static int twosIn(long number) {
            return Long.numberOfTrailingZeros(number);
        }

        /** An odd number is its own inverse in three bits, and each round doubles the bits: 96 at the end. */
        private static long inverseOfOdd(long odd) {
            long inverse = odd;
            for (int round = 0; round < 5; round++) {
                inverse *= 2 - odd * inverse;
            }
            return inverse;
        }
    }

    /** Paper with the faces that lie on it. */
    private static final class Sheet {
        /** Faces reach 21 places from the first one, and the place beside the farthest is asked for. */
        private static final int MIDDLE = 31;

        final boolean[] lies = new boolean[MOST_FACES];
        final int[] x = new int[MOST_FACES];
        final int[] y = new int[MOST_FACES];
        int count;
        private final Solid solid;
        // The direction of each side of each face: RIGHT, UP and their opposites.
        private final int[] headings = new int[MOST_FACES * SIDES];
        // A bit for each place, so that the search need not look through the faces.
        private final long[] taken = new long[2 * MIDDLE + 1];

        Sheet(Solid solid) {
            this.solid = solid;
        }

        void wipe() {
            for (int f = 0; f < MOST_FACES; f++) {
                if (lies[f]) {
                    takeOff(f);
                }
            }
        }

        void putFirst(int f) {
            setHeading(f, 0, FIRST_RIGHT[solid.lookOf[f]]);
            setHeading(f, 1, FIRST_UP[solid.lookOf[f]]);
            putAt(f, 0, 0);
        }

        void putBeside(int f, int side) {
            int other = neighbour(f, side);
            setHeading(other, side, onward(f, side));
            setHeading(other, side ^ 1, heading(f, side ^ 1));
            putAt(other, x[f] + SIDE_X[side], y[f] + SIDE_Y[side]);
        }

        void takeOff(int f) {
            lies[f] = false;
            taken[MIDDLE + y[f]] &= ~placeBit(x[f]);
            count--;
        }

        int heading(int f, int side) {
            return headings[f * SIDES + side];
        }

        int neighbour(int f, int side) {
            return solid.beyond(f, heading(f, side));
        }

        /** Whether the place on that side of a face on the paper is empty. */
        boolean isFreeBeside(int f, int side) {
            long line = taken[MIDDLE + y[f] + SIDE_Y[side]];
            return (line & placeBit(x[f] + SIDE_X[side])) == 0;
        }

        /** Whether the face across lies on that side already, just as it would be put there. */
        boolean fitsBeside(int f, int side) {
            int other = neighbour(f, side);
            return lies[other]
                    && x[other] == x[f] + SIDE_X[side] && y[other] == y[f] + SIDE_Y[side]
                    && heading(other, side) == onward(f, side)
                    && heading(other, side ^ 1) == heading(f, side ^ 1);
        }

        int faceAt(int px, int py) {
            for (int f = 0; f < MOST_FACES; f++) {
                if (lies[f] && x[f] == px && y[f] == py) {
                    return f;
                }
            }
            return -1;
        }

        private void putAt(int f, int px, int py) {
            lies[f] = true;
            x[f] = px;
            y[f] = py;
            taken[MIDDLE + py] |= placeBit(px);
            count++;
        }

        private int onward(int f, int side) {
            return solid.onward(f, heading(f, side));
        }

        private void setHeading(int f, int side, int direction) {
            headings[f * SIDES + side] = direction;
            headings[f * SIDES + (side ^ 2)] = opposite(direction);
        }

        private static long placeBit(int px) {
            return 1L << (MIDDLE + px);
        }
    }

    /** All unfoldings without an overlap, one after another. */
    private static final class Search {
        /** More than any call needs: ahead of each of 501 choices 22 are taken back at most, with 88 steps each. */
        private static final int MOST_TURNS = 1000000;

        int nets;
        int work;
        boolean ended;
        final BestNet bestNet = new BestNet();
        private final Solid solid;
        private final Album album;
        private final Sheet sheet;
        private final int[] laid = new int[MOST_FACES];
        private final int[] laidAtStep = new int[MOST_FACES];
        private int step;

        Search(Solid solid, Album album) {
            this.solid = solid;
            this.album = album;
            sheet = new Sheet(solid);
        }

        void restart() {
            nets = 0;
            work = 0;
            ended = false;
            step = 0;
            bestNet.found = false;
            sheet.wipe();
            if (solid.faces > 0) {
                sheet.putFirst(0);
                laid[0] = 0;
            }
        }

        void goOn(int mostWork) {
            int before = work;
            for (int turn = 0; turn < MOST_TURNS && !ended; turn++) {
                if (step >= sheet.count * SIDES) {
                    finishUnfolding();
                } else if (!isChoice()) {
                    step++;
                } else if (work - before >= mostWork) {
                    break;
                } else {
                    choose();
                }
            }
        }

        private boolean isChoice() {
            int f = laid[step / SIDES];
            int side = step % SIDES;
            return !sheet.lies[sheet.neighbour(f, side)] && sheet.isFreeBeside(f, side);
        }

        private void choose() {
            int f = laid[step / SIDES];
            int side = step % SIDES;
            laid[sheet.count] = sheet.neighbour(f, side);
            laidAtStep[sheet.count] = step;
            sheet.putBeside(f, side);
            step++;
            work++;
        }

        private void finishUnfolding() {
            if (sheet.count == solid.faces) {
                bestNet.offer(sheet, nets);
                album.keep(sheet);
                nets++;
            }
            if (sheet.count > 1) {
                takeBack();
            } else {
                ended = true;
            }
        }

        private void takeBack() {
            int last = sheet.count - 1;
            sheet.takeOff(laid[last]);
            step = laidAtStep[last] + 1;
        }
    }

    /** The net found first of those with the least product of width and height. */
    private static final class BestNet {
        boolean found;
        int width;
        int height;
        int number;
        final int[] x = new int[MOST_FACES];
        final int[] y = new int[MOST_FACES];

        void offer(Sheet net, int itsNumber) {
            int wide = most(net.x, net.count) - least(net.x, net.count) + 1;
            int high = most(net.y, net.count) - least(net.y, net.count) + 1;
            if (!found || wide * high < width * height) {
                found = true;
                width = wide;
                height = high;
                number = itsNumber;
                System.arraycopy(net.x, 0, x, 0, net.count);
                System.arraycopy(net.y, 0, y, 0, net.count);
            }
        }
    }

    /** The shapes that are kept, each as its rising row of numbers 32 y + x. */
    private static final class Album {
        private static final int LINE = 32;

        int count;
        final int[] places = new int[MOST_SHAPES];
        private final int[] numbers = new int[MOST_SHAPES * MOST_FACES];
        private final int[] imageX = new int[MOST_FACES];
        private final int[] imageY = new int[MOST_FACES];
        // Images are compared as lines of bits: of two, the one that has the first place
        // that is not in both has the lesser row of numbers.
        private final int[] image = new int[MOST_FACES];
        private final int[] leastImage = new int[MOST_FACES];

        int placeX(int i, int k) {
            return numbers[i * MOST_FACES + k] % LINE;
        }

        int placeY(int i, int k) {
            return numbers[i * MOST_FACES + k] / LINE;
        }

        /** Which place of a shape lies there, or -1. */
        int placeAt(int i, int x, int y) {
            for (int k = 0; k < places[i]; k++) {
                if (placeX(i, k) == x && placeY(i, k) == y) {
                    return k;
                }
            }
            return -1;
        }

        /** Keeps the shape of a net on which all faces lie, if there is room and it is new. */
        void keep(Sheet net) {
            if (count >= MOST_SHAPES) {
                return;
            }
            findLeastImage(net);
            writeNumbers(net.count);
            if (isLastNew()) {
                count++;
            }
        }

        private void findLeastImage(Sheet net) {
            for (int m = 0; m < IMAGES; m++) {
                drawImage(net, m);
                if (m == 0 || isImageLess()) {
                    System.arraycopy(image, 0, leastImage, 0, MOST_FACES);
                }
            }
        }

        private void drawImage(Sheet net, int m) {
            int n = net.count;
            for (int f = 0; f < n; f++) {
                imageX[f] = X_OF_X[m] * net.x[f] + X_OF_Y[m] * net.y[f];
                imageY[f] = Y_OF_X[m] * net.x[f] + Y_OF_Y[m] * net.y[f];
            }
            Arrays.fill(image, 0);
            int left = least(imageX, n);
            int bottom = least(imageY, n);
            for (int f = 0; f < n; f++) {
                image[imageY[f] - bottom] |= 1 << (imageX[f] - left);
            }
        }

        private boolean isImageLess() {
            for (int y = 0; y < MOST_FACES; y++) {
                int differ = image[y] ^ leastImage[y];
                if (differ != 0) {
                    return (Integer.lowestOneBit(differ) & image[y]) != 0;
                }
            }
            return false;
        }

        /** Behind the shapes that are kept: it is one of them only when it is counted. */
        private void writeNumbers(int n) {
            int k = 0;
            for (int y = 0; y < n; y++) {
                for (int x = 0; x < n && k < n; x++) {
                    if ((leastImage[y] >> x & 1) != 0) {
                        numbers[count * MOST_FACES + k] = LINE * y + x;
                        k++;
                    }
                }
            }
            places[count] = k;
        }

        private boolean isLastNew() {
            for (int i = 0; i < count; i++) {
                if (isSame(i, count)) {
                    return false;
                }
            }
            return true;
        }

        private boolean isSame(int i, int j) {
            if (places[i] != places[j]) {
                return false;
            }
            for (int k = 0; k < places[i]; k++) {
                if (numbers[i * MOST_FACES + k] != numbers[j * MOST_FACES + k]) {
                    return false;
                }
            }
            return true;
        }
    }

    /** Folds a shape around the solid from each face, in each of its images. */
    private static final class Wrapping {
        private final Solid solid;
        private final Album album;
        private final Sheet sheet;
        private final int[] imageSide = new int[IMAGES * SIDES];
        private final int[] beside = new int[MOST_FACES * SIDES];
        private final int[] reached = new int[MOST_FACES];
        private final int[] faceOn = new int[MOST_FACES];
        private int reachedCount;

        Wrapping(Solid solid, Album album) {
            this.solid = solid;
            this.album = album;
            sheet = new Sheet(solid);
            for (int m = 0; m < IMAGES; m++) {
                for (int side = 0; side < SIDES; side++) {
                    imageSide[m * SIDES + side] = sideInImage(m, side);
                }
            }
        }

        int countWays(int i) {
            if (album.places[i] != solid.faces) {
                return 0;
            }
            findNeighbours(i);
            int ways = 0;
            for (int f = 0; f < solid.faces; f++) {
                for (int m = 0; m < IMAGES; m++) {
                    if (canFold(f, m)) {
                        ways++;
                    }
                }
            }
            return ways;
        }

        private static int sideInImage(int m, int side) {
            int toX = X_OF_X[m] * SIDE_X[side] + X_OF_Y[m] * SIDE_Y[side];
            int toY = Y_OF_X[m] * SIDE_X[side] + Y_OF_Y[m] * SIDE_Y[side];
            int found = 0;
            for (int s = 0; s < SIDES; s++) {
                if (SIDE_X[s] == toX && SIDE_Y[s] == toY) {
                    found = s;
                }
            }
            return found;
        }

        private void findNeighbours(int i) {
            for (int k = 0; k < solid.faces; k++) {
                int x = album.placeX(i, k);
                int y = album.placeY(i, k);
                for (int side = 0; side < SIDES; side++) {
                    beside[k * SIDES + side] = album.placeAt(i, x + SIDE_X[side], y + SIDE_Y[side]);
                }
            }
        }

        private boolean canFold(int first, int m) {
            beginAt(first);
            for (int step = 0; step < solid.faces * SIDES; step++) {
                int next = step / SIDES;
                if (next >= reachedCount || !canFoldOver(reached[next], step % SIDES, m)) {
                    return false;
                }
            }
            return true;
        }

        private void beginAt(int first) {
            Arrays.fill(faceOn, -1);
            sheet.wipe();
            sheet.putFirst(first);
            faceOn[0] = first;
            reached[0] = 0;
            reachedCount = 1;
        }

        private boolean canFoldOver(int place, int side, int m) {
            int nextPlace = beside[place * SIDES + side];
            if (nextPlace < 0) {
                return true;
            }
            int from = faceOn[place];
            int sideThere = imageSide[m * SIDES + side];
            if (faceOn[nextPlace] >= 0) {
                return sheet.fitsBeside(from, sideThere);
            }
            int other = sheet.neighbour(from, sideThere);
            if (sheet.lies[other]) {
                return false;
            }
            sheet.putBeside(from, sideThere);
            faceOn[nextPlace] = other;
            reached[reachedCount] = nextPlace;
            reachedCount++;
            return true;
        }
    }
}
