import java.util.Random;

/** Any calls with any arguments, 512 to an object: none throws, and no answer is out of all bounds. */
public final class WildCallsTest {
    private static final int CALLS = 512;
    private static final int[] WILD = {Integer.MIN_VALUE, Integer.MIN_VALUE + 1, -1000001, -1000000, -6561, -100,
        -99, -33, -32, -10, -9, -8, -1, 0, 1, 2, 3, 4, 7, 8, 9, 10, 31, 32, 33, 64, 99, 100, 255, 256, 2187, 6560,
        6561, 6562, 19683, 1000000, 1000001, 1 << 30, Integer.MAX_VALUE - 1, Integer.MAX_VALUE};
    private static final Due DUE = new Due("WildCallsTest");

    private WildCallsTest() { }

    public static void main(String[] args) {
        for (int seed = 0; seed < 60; seed++) {
            Random random = new Random(seed);
            int numbers = random.nextBoolean() ? 1 + random.nextInt(3) : any(random);
            SpaceWalls space = new SpaceWalls(numbers);
            for (int call = 0; call < CALLS; call++) {
                callSome(space, numbers, random, seed);
            }
        }
        DUE.end();
    }

    private static int any(Random random) {
        return switch (random.nextInt(4)) {
            case 0 -> WILD[random.nextInt(WILD.length)];
            case 1 -> random.nextInt();
            case 2 -> random.nextInt(6561);
            default -> random.nextInt(19) - 9;
        };
    }

    private static void callSome(SpaceWalls space, int numbers, Random random, int seed) {
        int which = random.nextInt(24);
        // Every kind of call above 18 is a wall that mostly is one.
        boolean isWall = which > 18;
        int a = isWall ? random.nextInt(19) - 9 : any(random);
        int b = isWall ? (numbers > 1 ? random.nextInt(19) - 9 : 0) : any(random);
        int c = isWall ? (numbers > 2 ? random.nextInt(19) - 9 : 0) : any(random);
        String call = "seed " + seed + " call of kind " + which + " with " + a + " " + b + " " + c;
        try {
            long got = answer(space, which, a, b, c, random);
            DUE.holds(call + " answered " + got, got >= -60000 && got <= 60000);
        } catch (RuntimeException thrown) {
            DUE.holds(call + " threw " + thrown, false);
        }
    }

    private static long answer(SpaceWalls space, int which, int a, int b, int c, Random random) {
        return switch (which) {
            case 0 -> space.wall(a, b, c, any(random));
            case 1 -> space.take(a) ? 1 : 0;
            case 2 -> space.told(a, b);
            case 3 -> space.row(a, b, c);
            case 4 -> space.faces(a);
            case 5 -> space.face(a, b);
            case 6 -> space.width(a);
            case 7 -> space.bounded(a) ? 1 : 0;
            case 8 -> space.boundedRooms();
            case 9 -> space.poly(a);
            case 10 -> space.without(a, b);
            case 11 -> space.on(a, b);
            case 12 -> space.walls(a);
            case 13 -> space.beside(a, b);
            case 14 -> space.way(a, b);
            case 15 -> space.step(a, b);
            case 16 -> space.far();
            case 17 -> space.left(a);
            case 18 -> space.count(a);
            default -> space.wall(a, b, c, random.nextInt(199) - 99);
        };
    }
}
