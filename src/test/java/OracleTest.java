import java.util.ArrayList;
import java.util.List;
import java.util.Random;

/** Every answer for many heaps of walls against the oracle's, while walls come and go. */
public final class OracleTest {
    private static final int[] PRIMES = {2, 3, 5, 7, 11, 13, 17, 19, 23, 29, 31};
    private static final Due DUE = new Due("OracleTest");

    private OracleTest() { }

    public static void main(String[] args) {
        for (int seed = 0; seed < 90; seed++) {
            tryWalls(seed);
        }
        DUE.end();
    }

    private static void tryWalls(int seed) {
        Random random = new Random(seed);
        int numbers = 1 + seed % 3;
        // Small factors make walls that are parallel or share lines and corners.
        int most = new int[] {1, 2, 9}[seed / 3 % 3];
        int high = new int[] {0, 1, 3, 99}[seed / 9 % 4];
        Renewed space = new Renewed(numbers);
        List<int[]> walls = new ArrayList<>();
        for (int call = 0; call < 40; call++) {
            if (random.nextInt(6) == 0) {
                int gone = random.nextInt(9);
                boolean there = gone < walls.size();
                DUE.is("take", space.take(gone), there);
                if (there) {
                    walls.remove(gone);
                }
            } else {
                int[] w = wallOf(random, numbers, most, high);
                DUE.is("wall", space.wall(w[0], w[1], w[2], w[3]), numberDue(walls, w));
                if (numberDue(walls, w) >= 0) {
                    walls.add(w);
                }
            }
            if (call % 13 == 12) {
                compare("seed " + seed + " call " + call, space, new Oracle(numbers, walls), random);
            }
        }
    }

    private static int[] wallOf(Random random, int numbers, int most, int high) {
        int[] w = new int[4];
        for (int i = 0; i < numbers; i++) {
            w[i] = random.nextInt(2 * most + 1) - most;
        }
        w[3] = random.nextInt(2 * high + 1) - high;
        return w;
    }

    private static int numberDue(List<int[]> walls, int[] w) {
        if (w[0] == 0 && w[1] == 0 && w[2] == 0 || walls.size() == 8) {
            return -1;
        }
        for (int[] other : walls) {
            if (Oracle.rank(List.of(other, w), 4) == 1) {
                return -1;
            }
        }
        return walls.size();
    }

    private static void compare(String when, Renewed space, Oracle oracle, Random random) {
        compareWalls(when, space, oracle);
        compareFaces(when, space, oracle);
        comparePolynomials(when, space, oracle);
        compareRooms(when, space, oracle, random);
        for (int i = 0; i < 20; i++) {
            int x = random.nextInt(41) - 20;
            int y = oracle.numbers > 1 ? random.nextInt(41) - 20 : 0;
            int z = oracle.numbers > 2 ? random.nextInt(41) - 20 : 0;
            DUE.is(when + " row", space.ask().row(x, y, z), oracle.row(x, y, z));
        }
        int prime = PRIMES[random.nextInt(PRIMES.length)];
        DUE.is(when + " left " + prime, space.ask().left(prime), oracle.left(prime));
    }

    private static void compareWalls(String when, Renewed space, Oracle oracle) {
        DUE.is(when + " count 0", space.ask().count(0), oracle.numbers);
        DUE.is(when + " count 1", space.ask().count(1), oracle.walls.size());
        DUE.is(when + " count 3", space.ask().count(3), oracle.rows.size());
        DUE.is(when + " count 4", space.ask().count(4), Oracle.rank(oracle.walls, 3));
        for (int k = 0; k < oracle.walls.size(); k++) {
            for (int i = 0; i < 4; i++) {
                DUE.is(when + " told", space.ask().told(k, i), oracle.walls.get(k)[i]);
            }
        }
    }

    private static void compareFaces(String when, Renewed space, Oracle oracle) {
        int[] many = new int[4];
        for (int row : oracle.rows) {
            int width = oracle.width(row);
            DUE.is(when + " face " + many[width], space.ask().face(width, many[width]), row);
            many[width]++;
        }
        for (int width = 0; width <= oracle.numbers; width++) {
            DUE.is(when + " faces", space.ask().faces(width), many[width]);
            DUE.is(when + " face behind the last", space.ask().face(width, many[width]), -1);
        }
        DUE.is(when + " count 2", space.ask().count(2), many[oracle.numbers]);
        for (int row = -1; row <= 6561; row++) {
            DUE.is(when + " width " + row, space.ask().width(row), oracle.width(row));
        }
    }

    private static void comparePolynomials(String when, Renewed space, Oracle oracle) {
        long[] whole = oracle.polynomial(-1);
        for (int i = 0; i < 4; i++) {
            DUE.is(when + " poly " + i, space.ask().poly(i), whole[i]);
        }
        for (int k = 0; k < oracle.walls.size(); k++) {
            long[] without = oracle.polynomial(k);
            long[] on = oracle.polynomialOn(k);
            for (int i = 0; i < 4; i++) {
                DUE.is(when + " without " + k + " " + i, space.ask().without(k, i), without[i]);
                DUE.is(when + " on " + k + " " + i, space.ask().on(k, i), on[i]);
            }
        }
    }

    private static void compareRooms(String when, Renewed space, Oracle oracle, Random random) {
        List<Integer> rooms = new ArrayList<>();
        int boundedRooms = 0;
        for (int row : oracle.rows) {
            DUE.is(when + " bounded " + row, space.ask().bounded(row), oracle.bounded(row));
            boundedRooms += oracle.bounded(row) ? 1 : 0;
            if (oracle.isRoom(row)) {
                rooms.add(row);
                compareNeighbours(when, space, oracle, row);
            } else {
                DUE.is(when + " walls of no room", space.ask().walls(row), -1);
            }
        }
        DUE.is(when + " boundedRooms", space.ask().boundedRooms(), boundedRooms);
        int far = 0;
        for (int from : rooms) {
            for (int to : rooms) {
                far = Math.max(far, oracle.parting(from, to));
                if (random.nextInt(rooms.size()) < 8) {
                    DUE.is(when + " way", space.ask().way(from, to), oracle.parting(from, to));
                    DUE.is(when + " step", space.ask().step(from, to), oracle.firstStep(from, to));
                    walk(when, space, from, to);
                }
            }
        }
        DUE.is(when + " far", space.ask().far(), far);
    }

    private static void compareNeighbours(String when, Renewed space, Oracle oracle, int room) {
        int mask = 0;
        for (int k = 0; k < oracle.walls.size(); k++) {
            int other = oracle.flipped(room, k);
            boolean isOf = oracle.isRoom(other);
            mask |= isOf ? 1 << k : 0;
            DUE.is(when + " beside " + room + " " + k, space.ask().beside(room, k), isOf ? other : -1);
        }
        DUE.is(when + " walls " + room, space.ask().walls(room), mask);
    }

    private static void walk(String when, Renewed space, int from, int to) {
        int at = from;
        int steps = 0;
        while (at != to && steps < 9) {
            at = space.ask().beside(at, space.ask().step(at, to));
            steps++;
        }
        DUE.is(when + " steps of the way", steps, space.ask().way(from, to));
    }
}
