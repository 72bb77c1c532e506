import java.util.Arrays;

/** Planes that cut space into rooms; ../shared/DOC.md says what each call answers. */
public final class SpaceWalls {
    public static final int NONE = -1;

    private static final int MOST_NUMBERS = 3;
    private static final int MOST_WALLS = 8;
    private static final int MOST_HEAPS = 256;
    private static final int MOST_ROWS = 6561;
    // Eight walls in general position make 56 + 196 + 232 + 93 faces; none make more.
    private static final int MOST_FACES = 577;
    // The pairs of eight walls and three axis planes.
    private static final int MOST_LINES = 55;
    private static final int MOST_NORMAL = 9;
    private static final int MOST_HEIGHT = 99;
    private static final int MOST_PLACE = 1000000;
    private static final int MOST_PRIME = 31;
    private static final int[] POWERS = {1, 3, 9, 27, 81, 243, 729, 2187};

    private final Planes planes;
    private final Heaps heaps;
    private final Cut cut;
    private final PrimeCounter counter;
    // Walls often come several in a row, so space is cut only when somebody asks.
    private boolean fresh;

    public SpaceWalls(int numbers) {
        planes = new Planes(Math.max(1, Math.min(MOST_NUMBERS, numbers)));
        heaps = new Heaps(planes);
        cut = new Cut(planes, heaps);
        counter = new PrimeCounter(planes);
        fresh = false;
    }

    public int wall(int a, int b, int c, int e) {
        if (planes.size >= MOST_WALLS || !planes.isPlane(a, b, c, e) || planes.isThere(a, b, c, e)) {
            return NONE;
        }
        planes.append(a, b, c, e);
        fresh = false;
        return planes.size - 1;
    }

    public boolean take(int wall) {
        if (!planes.holds(wall)) {
            return false;
        }
        planes.drop(wall);
        fresh = false;
        return true;
    }

    public int told(int wall, int what) {
        if (!planes.holds(wall)) {
            return NONE;
        }
        switch (what) {
            case 0:
                return planes.a[wall];
            case 1:
                return planes.b[wall];
            case 2:
                return planes.c[wall];
            case 3:
                return planes.e[wall];
            default:
                return NONE;
        }
    }

    public int row(int x, int y, int z) {
        int usedY = planes.numbers >= 2 ? y : 0;
        int usedZ = planes.numbers >= 3 ? z : 0;
        if (isTooFar(x) || isTooFar(usedY) || isTooFar(usedZ)) {
            return NONE;
        }
        return planes.rowOf(planes.signs(x, usedY, usedZ, 1));
    }

    public int faces(int width) {
        if (width < 0 || width > planes.numbers) {
            return NONE;
        }
        return freshCut().countOfWidth(width);
    }

    public int face(int width, int i) {
        return freshCut().rowOfWidth(width, i);
    }

    public int width(int row) {
        Cut now = freshCut();
        return now.hasFace(row) ? planes.numbers - heaps.rank[maskOf(row, 1)] : NONE;
    }

    public boolean bounded(int row) {
        Cut now = freshCut();
        return now.hasRoom(row) && heaps.rankOfAll() == planes.numbers && !now.isOpen(maskOf(row, 2));
    }

    public int boundedRooms() {
        freshCut();
        if (heaps.rankOfAll() < planes.numbers) {
            return 0;
        }
        // Zaslavsky: walls of full rank bound as many rooms as their polynomial has at t = 1.
        int atOne = 0;
        for (int power = 0; power <= planes.numbers; power++) {
            atOne += heaps.factor(power, 0);
        }
        return Math.abs(atOne);
    }

    public int poly(int i) {
        freshCut();
        return heaps.factor(i, 0);
    }

    public int without(int wall, int i) {
        if (!planes.holds(wall)) {
            return 0;
        }
        freshCut();
        return heaps.factor(i, 1 << wall);
    }

    public int on(int wall, int i) {
        if (!planes.holds(wall)) {
            return 0;
        }
        freshCut();
        // Deletion and restriction: the whole polynomial is that without the wall less that on it.
        return heaps.factor(i, 1 << wall) - heaps.factor(i, 0);
    }

    public int walls(int row) {
        Cut now = freshCut();
        return now.hasRoom(row) ? now.wallsOf(row) : NONE;
    }

    public int beside(int row, int wall) {
        Cut now = freshCut();
        if (!planes.holds(wall) || !now.hasRoom(row)) {
            return NONE;
        }
        int other = across(row, wall);
        return now.hasRoom(other) ? other : NONE;
    }

    public int way(int from, int to) {
        Cut now = freshCut();
        if (!now.hasRoom(from) || !now.hasRoom(to)) {
            return NONE;
        }
        return Integer.bitCount(parting(from, to));
    }

    public int step(int from, int to) {
        Cut now = freshCut();
        if (!now.hasRoom(from) || !now.hasRoom(to)) {
            return NONE;
        }
        int open = parting(from, to) & now.wallsOf(from);
        for (int k = 0; k < planes.size; k++) {
            if ((open >> k & 1) == 1) {
                return k;
            }
        }
        return NONE;
    }

    public int far() {
        // Far out on a line that meets every wall, its two ends are parted by all of them.
        return planes.size;
    }

    public int left(int p) {
        return isPrime(p) ? counter.countMissed(p) : NONE;
    }

    public int count(int what) {
        switch (what) {
            case 0:
                return planes.numbers;
            case 1:
                return planes.size;
            case 2:
                return freshCut().countOfWidth(planes.numbers);
            case 3:
                return freshCut().found;
            case 4:
                freshCut();
                return heaps.rankOfAll();
            default:
                return NONE;
        }
    }

    private Cut freshCut() {
        if (!fresh) {
            cut.cutAnew();
            fresh = true;
        }
        return cut;
    }

    private static boolean isTooFar(int number) {
        return number > MOST_PLACE || number < -MOST_PLACE;
    }

    private static boolean isPrime(int p) {
        if (p < 2 || p > MOST_PRIME) {
            return false;
        }
        for (int q = 2; q * q <= p; q++) {
            if (p % q == 0) {
                return false;
            }
        }
        return true;
    }

    private static int parting(int from, int to) {
        return maskOf(from, 2) ^ maskOf(to, 2);
    }

    /** The walls at which a row has a sign, as bits. */
    private static int maskOf(int row, int sign) {
        int mask = 0;
        int rest = row;
        for (int k = 0; k < MOST_WALLS; k++) {
            if (rest % 3 == sign) {
                mask |= 1 << k;
            }
            rest /= 3;
        }
        return mask;
    }

    /** Of signs as Planes.signs packs them: the walls that the place is on. */
    private static int onMask(int signs) {
        return signs & MOST_HEAPS - 1;
    }

    /** Of signs as Planes.signs packs them: the walls that the place is above. */
    private static int aboveMask(int signs) {
        return signs >> MOST_WALLS & MOST_HEAPS - 1;
    }

    /** The row of a room with the other sign at one wall. */
    private static int across(int row, int wall) {
        if (wall < 0 || wall >= MOST_WALLS) {
            return NONE;
        }
        int leap = 2 * POWERS[wall];
        return row / POWERS[wall] % 3 == 0 ? row + leap : row - leap;
    }

    /** The walls in their order, and at MOST_WALLS the three axis planes x = 0, y = 0, z = 0. */
    private static final class Planes {
        private final int numbers;
        private final int[] a = new int[MOST_WALLS + MOST_NUMBERS];
        private final int[] b = new int[MOST_WALLS + MOST_NUMBERS];
        private final int[] c = new int[MOST_WALLS + MOST_NUMBERS];
        private final int[] e = new int[MOST_WALLS + MOST_NUMBERS];
        // The sum of the powers of three at a heap's walls: rows are asked for all the time.
        private final int[] threes = new int[MOST_HEAPS];
        private int size;

        Planes(int numbers) {
            this.numbers = numbers;
            a[MOST_WALLS] = 1;
            b[MOST_WALLS + 1] = 1;
            c[MOST_WALLS + 2] = 1;
            size = 0;
            for (int k = 0; k < MOST_WALLS; k++) {
                for (int heap = 0; heap < 1 << k; heap++) {
                    threes[heap | 1 << k] = threes[heap] + POWERS[k];
                }
            }
        }

        boolean holds(int wall) {
            return wall >= 0 && wall < size;
        }

        boolean isPlane(int a, int b, int c, int e) {
            if (!isWithin(a, MOST_NORMAL) || !isWithin(b, MOST_NORMAL) || !isWithin(c, MOST_NORMAL)
                    || !isWithin(e, MOST_HEIGHT)) {
                return false;
            }
            if (numbers < 2 && b != 0 || numbers < 3 && c != 0) {
                return false;
            }
            return a != 0 || b != 0 || c != 0;
        }

        private static boolean isWithin(int number, int most) {
            return number >= -most && number <= most;
        }

        boolean isThere(int a, int b, int c, int e) {
            for (int k = 0; k < size; k++) {
                if (this.a[k] * b == this.b[k] * a && this.a[k] * c == this.c[k] * a
                        && this.b[k] * c == this.c[k] * b && this.a[k] * e == this.e[k] * a
                        && this.b[k] * e == this.e[k] * b && this.c[k] * e == this.e[k] * c) {
                    return true;
                }
            }
            return false;
        }

        void append(int a, int b, int c, int e) {
            if (size >= MOST_WALLS) {
                return;
            }
            this.a[size] = a;
            this.b[size] = b;
            this.c[size] = c;
            this.e[size] = e;
            size++;
        }

        void drop(int wall) {
            if (!holds(wall)) {
                return;
            }
            for (int k = wall; k + 1 < size; k++) {
                a[k] = a[k + 1];
                b[k] = b[k + 1];
                c[k] = c[k + 1];
                e[k] = e[k + 1];
            }
            size--;
        }

        /** The plane at i, if the axis planes come right after the walls that are there. */
        int indexOf(int i) {
            return i < size ? i : Math.min(MOST_WALLS + i - size, MOST_WALLS + MOST_NUMBERS - 1);
        }

        /**
         * The signs of the place x/w, y/w, z/w: bit k if it is on wall k, bit k + MOST_WALLS if it
         * is above. With w = 0 they are those of the direction x, y, z.
         */
        int signs(int x, int y, int z, int w) {
            int signs = 0;
            for (int k = 0; k < size; k++) {
                int over = a[k] * x + b[k] * y + c[k] * z - e[k] * w;
                if (over == 0) {
                    signs |= 1 << k;
                } else if (over > 0) {
                    signs |= 1 << (k + MOST_WALLS);
                }
            }
            return signs;
        }

        int rowOf(int signs) {
            return threes[onMask(signs)] + 2 * threes[aboveMask(signs)];
        }
    }

    /** A direction, held so that crossing planes makes no new objects. */
    private static final class Arrow {
        private int x;
        private int y;
        private int z;

        void alongBoth(Planes planes, int i, int j) {
            set(planes.a[i], planes.b[i], planes.c[i]);
            crossWith(planes, j);
        }

        void set(int newX, int newY, int newZ) {
            x = newX;
            y = newY;
            z = newZ;
        }

        void crossWith(Planes planes, int j) {
            int a = planes.a[j];
            int b = planes.b[j];
            int c = planes.c[j];
            set(y * c - z * b, z * a - x * c, x * b - y * a);
        }

        int climb(Planes planes, int k) {
            return planes.a[k] * x + planes.b[k] * y + planes.c[k] * z;
        }

        boolean isNothing() {
            return x == 0 && y == 0 && z == 0;
        }
    }

    /** Of every heap of walls (its bits): the rank, and whether the walls have a place in common. */
    private static final class Heaps {
        private final Planes planes;
        private final int[] rank = new int[MOST_HEAPS];
        private final boolean[] common = new boolean[MOST_HEAPS];
        // At rank 1 the direction that all the heap's normals share, at rank 2 the one they all miss.
        private final int[] keyX = new int[MOST_HEAPS];
        private final int[] keyY = new int[MOST_HEAPS];
        private final int[] keyZ = new int[MOST_HEAPS];
        private final Arrow key = new Arrow();

        Heaps(Planes planes) {
            this.planes = planes;
        }

        int rankOfAll() {
            return rank[(1 << planes.size) - 1];
        }

        void forgetCommon() {
            for (int heap = 0; heap < MOST_HEAPS; heap++) {
                common[heap] = false;
            }
        }

        void rankAnew() {
            for (int k = 0; k < planes.size; k++) {
                for (int heap = 0; heap < 1 << k; heap++) {
                    rankWith(heap, k);
                }
            }
        }

        private void rankWith(int heap, int k) {
            int more = heap | 1 << k;
            int old = rank[heap];
            key.set(keyX[heap], keyY[heap], keyZ[heap]);
            int grown = old;
            if (old == 0) {
                key.set(planes.a[k], planes.b[k], planes.c[k]);
                grown = 1;
            } else if (old == 1) {
                key.crossWith(planes, k);
                if (key.isNothing()) {
                    key.set(keyX[heap], keyY[heap], keyZ[heap]);
                } else {
                    grown = 2;
                }
            } else if (old == 2 && key.climb(planes, k) != 0) {
                grown = 3;
            }
            rank[more] = grown;
            keyX[more] = key.x;
            keyY[more] = key.y;
            keyZ[more] = key.z;
        }

        /** Walls that share a face still share its places when one of them is left out. */
        void shareDown() {
            for (int heap = (1 << planes.size) - 1; heap > 0; heap--) {
                for (int k = 0; k < planes.size && common[heap]; k++) {
                    common[heap & ~(1 << k)] = true;
                }
            }
        }

        /** What goes with a power in the polynomial of the walls that are not among the skipped. */
        int factor(int power, int skipped) {
            int sum = 0;
            for (int heap = 0; heap < 1 << planes.size; heap++) {
                if (common[heap] && (heap & skipped) == 0 && planes.numbers - rank[heap] == power) {
                    sum += (Integer.bitCount(heap) & 1) == 0 ? 1 : -1;
                }
            }
            return sum;
        }
    }

    /**
     * All faces. Each has a corner at its edge (or, where the walls have no corners, a face of the
     * least width); from there it is reached by small moves along lines in which two planes cross,
     * each of which takes one from the rank of the walls that the place is on.
     */
    private static final class Cut {
        private final Planes planes;
        private final Heaps heaps;
        private final int[] marks = new int[(MOST_ROWS + 31) / 32];
        private final int[] reached = new int[MOST_FACES];
        private final int[] rows = new int[MOST_FACES];
        private final int[] widths = new int[MOST_FACES];
        private final int[] lineAbove = new int[MOST_LINES];
        private final int[] lineBelow = new int[MOST_LINES];
        private final Arrow first = new Arrow();
        private final Arrow second = new Arrow();
        private final Arrow third = new Arrow();
        private int found;
        private int lines;

        Cut(Planes planes, Heaps heaps) {
            this.planes = planes;
            this.heaps = heaps;
            found = 0;
            lines = 0;
        }

        void cutAnew() {
            Arrays.fill(marks, 0);
            found = 0;
            lines = 0;
            heaps.forgetCommon();
            heaps.rankAnew();
            crossPlanes();
            for (int i = 0; i < MOST_FACES && i < found; i++) {
                moveFrom(reached[i]);
            }
            sortRows();
            heaps.shareDown();
        }

        /** Walls of less than full rank cross in no corner: the axis planes then give some. */
        private void crossPlanes() {
            int many = heaps.rankOfAll() == MOST_NUMBERS ? planes.size : planes.size + MOST_NUMBERS;
            for (int i = 0; i < many; i++) {
                for (int j = i + 1; j < many; j++) {
                    first.alongBoth(planes, planes.indexOf(i), planes.indexOf(j));
                    if (first.isNothing()) {
                        continue;
                    }
                    noteLine();
                    for (int k = j + 1; k < many; k++) {
                        noteCorner(planes.indexOf(i), planes.indexOf(j), planes.indexOf(k));
                    }
                }
            }
        }

        private void noteLine() {
            int all = (1 << planes.size) - 1;
            int signs = planes.signs(first.x, first.y, first.z, 0);
            int on = onMask(signs);
            int above = aboveMask(signs);
            // A line that is along every wall leads out of no face.
            if (on == all || lines >= MOST_LINES) {
                return;
            }
            lineAbove[lines] = above;
            lineBelow[lines] = all & ~on & ~above;
            lines++;
        }

        /** By Cramer's rule; first runs along the planes i and j. */
        private void noteCorner(int i, int j, int k) {
            int w = first.climb(planes, k);
            if (w == 0) {
                return;
            }
            second.alongBoth(planes, j, k);
            third.alongBoth(planes, k, i);
            // Signs are told with a divisor above 0.
            int turn = w < 0 ? -1 : 1;
            int ei = turn * planes.e[i];
            int ej = turn * planes.e[j];
            int ek = turn * planes.e[k];
            int x = ei * second.x + ej * third.x + ek * first.x;
            int y = ei * second.y + ej * third.y + ek * first.y;
            int z = ei * second.z + ej * third.z + ek * first.z;
            reach(planes.signs(x, y, z, turn * w));
        }

        private void reach(int signs) {
            int row = planes.rowOf(signs);
            if (isMarked(row) || found >= MOST_FACES) {
                return;
            }
            marks[row >> 5] |= 1 << (row & 31);
            reached[found] = signs;
            found++;
            heaps.common[onMask(signs)] = true;
        }

        private boolean isMarked(int row) {
            return (marks[row >> 5] >>> (row & 31) & 1) == 1;
        }

        private void moveFrom(int signs) {
            int on = onMask(signs);
            int above = aboveMask(signs);
            if (on == 0) {
                return;
            }
            for (int i = 0; i < lines; i++) {
                int still = on & ~(lineAbove[i] | lineBelow[i]);
                if (heaps.rank[still] != heaps.rank[on] - 1) {
                    continue;
                }
                reach((above | on & lineAbove[i]) << MOST_WALLS | still);
                reach((above | on & lineBelow[i]) << MOST_WALLS | still);
                // Off a single wall there are no more than its two sides.
                if (still == 0) {
                    return;
                }
            }
        }

        private void sortRows() {
            int next = 0;
            for (int row = 0; row < MOST_ROWS && next < found; row++) {
                if (isMarked(row)) {
                    rows[next] = row;
                    widths[next] = planes.numbers - heaps.rank[maskOf(row, 1)];
                    next++;
                }
            }
        }

        boolean hasFace(int row) {
            return row >= 0 && row < MOST_ROWS && isMarked(row);
        }

        boolean hasRoom(int row) {
            return hasFace(row) && maskOf(row, 1) == 0;
        }

        int countOfWidth(int width) {
            int sum = 0;
            for (int i = 0; i < found; i++) {
                if (widths[i] == width) {
                    sum++;
                }
            }
            return sum;
        }

        int rowOfWidth(int width, int which) {
            int before = 0;
            for (int i = 0; i < found; i++) {
                if (widths[i] == width) {
                    if (before == which) {
                        return rows[i];
                    }
                    before++;
                }
            }
            return NONE;
        }

        int wallsOf(int room) {
            int mask = 0;
            for (int k = 0; k < planes.size; k++) {
                if (hasRoom(across(room, k))) {
                    mask |= 1 << k;
                }
            }
            return mask;
        }

        /** Whether one can go on for ever in a room, which is then possible along some line. */
        boolean isOpen(int above) {
            for (int i = 0; i < lines; i++) {
                boolean forth = (lineAbove[i] & ~above) == 0 && (lineBelow[i] & above) == 0;
                boolean back = (lineBelow[i] & ~above) == 0 && (lineAbove[i] & above) == 0;
                if (forth || back) {
                    return true;
                }
            }
            return false;
        }
    }

    /** Counts the places of whole numbers round a prime that no wall meets. */
    private static final class PrimeCounter {
        private final Planes planes;
        private final int[] turned = new int[MOST_WALLS];

        PrimeCounter(Planes planes) {
            this.planes = planes;
        }

        int countMissed(int p) {
            for (int k = 0; k < planes.size; k++) {
                turned[k] = inverse(Math.floorMod(planes.a[k], p), p);
            }
            int manyY = planes.numbers >= 2 ? p : 1;
            int manyZ = planes.numbers >= 3 ? p : 1;
            int sum = 0;
            for (int y = 0; y < manyY; y++) {
                for (int z = 0; z < manyZ; z++) {
                    sum += p - Integer.bitCount(hits(y, z, p));
                }
            }
            return sum;
        }

        /** The x, as bits, at which some wall is met: a wall meets one x, all of them, or none. */
        private int hits(int y, int z, int p) {
            int met = 0;
            for (int k = 0; k < planes.size; k++) {
                int rest = Math.floorMod(planes.e[k] - planes.b[k] * y - planes.c[k] * z, p);
                if (turned[k] != 0) {
                    met |= 1 << rest * turned[k] % p;
                } else if (rest == 0) {
                    return (1 << p) - 1;
                }
            }
            return met;
        }

        /** What times a number leaves 1 round the prime; 0 if nothing does. */
        private static int inverse(int number, int p) {
            for (int i = 1; i < p; i++) {
                if (number * i % p == 1) {
                    return i;
                }
            }
            return 0;
        }
    }
}
