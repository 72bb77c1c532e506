/** Spaces with walls that several tests ask about. */
final class Spaces {
    static final int MOST_WALLS = 8;

    private Spaces() { }

    /** A space with walls, four numbers a, b, c, e to each. */
    static SpaceWalls of(int numbers, int... abce) {
        SpaceWalls space = new SpaceWalls(numbers);
        for (int i = 0; i + 3 < abce.length; i += 4) {
            space.wall(abce[i], abce[i + 1], abce[i + 2], abce[i + 3]);
        }
        return space;
    }

    /** x = 0, y = 0 and x + y = 2: seven rooms, of which the triangle (row 8) is bounded. */
    static SpaceWalls triangle() {
        return of(2, 1, 0, 0, 0, 0, 1, 0, 0, 1, 1, 0, 2);
    }

    /** The triangle's walls in a space of three numbers. */
    static SpaceWalls tube() {
        return of(3, 1, 0, 0, 0, 0, 1, 0, 0, 1, 1, 0, 2);
    }

    /** The six walls of a cube from 0 to 1. */
    static SpaceWalls cube() {
        return of(3, 1, 0, 0, 0, 0, 1, 0, 0, 0, 0, 1, 0, 1, 0, 0, 1, 0, 1, 0, 1, 0, 0, 1, 1);
    }

    /** Three walls that all run along the line x = y = z. */
    static SpaceWalls fan() {
        return of(3, 1, -1, 0, 0, 1, 0, -1, 0, 0, 1, -1, 0);
    }

    /** Eight walls round the place 0, 0, which is then in a room that has all of them. */
    static SpaceWalls octagon() {
        return of(2, 1, 0, 0, 3, 1, 0, 0, -3, 0, 1, 0, 3, 0, 1, 0, -3,
            1, 1, 0, 4, 1, 1, 0, -4, 1, -1, 0, 4, 1, -1, 0, -4);
    }

    /** Walls x = 0, x = 1 and so on, side by side: no two of them meet. */
    static SpaceWalls slices(int numbers, int many) {
        SpaceWalls space = new SpaceWalls(numbers);
        for (int k = 0; k < many; k++) {
            space.wall(1, 0, 0, k);
        }
        return space;
    }

    /** Walls in general position: each d of them meet in one place, no d + 1 do. */
    static SpaceWalls general(int numbers, int many) {
        SpaceWalls space = new SpaceWalls(numbers);
        for (int k = 0; k < many; k++) {
            int[] w = generalWall(numbers, k);
            space.wall(w[0], w[1], w[2], w[3]);
        }
        return space;
    }

    /** Walls of two or three numbers that all meet in the place 0, 0, 0, and otherwise as few as can be. */
    static SpaceWalls bundle(int numbers, int many) {
        SpaceWalls space = new SpaceWalls(numbers);
        for (int k = 0; k < many; k++) {
            int[] w = generalWall(numbers, k);
            space.wall(w[0], w[1], w[2], 0);
        }
        return space;
    }

    /**
     * With m = k - 3, a place is on wall k if m is a root of m - x, of m^2 - y m - x or of
     * m^3 - z m^2 - y m - x: so on at most d of them. The eighth wall of three numbers would have too
     * large a factor, and is z = 7: no three different m have 7 as their sum.
     */
    static int[] generalWall(int numbers, int k) {
        int m = k - 3;
        if (numbers == 1) {
            return new int[] {1, 0, 0, m};
        }
        if (numbers == 2) {
            return new int[] {1, m, 0, m * m};
        }
        return k == MOST_WALLS - 1 ? new int[] {0, 0, 1, 7} : new int[] {1, m, m * m, m * m * m};
    }

    /** How many heaps of some size there are among so many; 0 for a size below 0. */
    static int choose(int many, int size) {
        if (size < 0) {
            return 0;
        }
        int ways = 1;
        for (int i = 0; i < size; i++) {
            ways = ways * (many - i) / (i + 1);
        }
        return ways;
    }

    /** How many parts so many walls in general position make of a space. */
    static int parts(int numbers, int many) {
        int sum = 0;
        for (int i = 0; i <= numbers; i++) {
            sum += choose(many, i);
        }
        return sum;
    }

    static int power(int base, int exponent) {
        int product = 1;
        for (int i = 0; i < exponent; i++) {
            product *= base;
        }
        return product;
    }
}
