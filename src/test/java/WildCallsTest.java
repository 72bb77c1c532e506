import java.util.Random;

/** Any calls with any arguments, 512 to an object: none throws, and what is refused changes nothing. */
public final class WildCallsTest {
    private static final int CALLS = 512;
    private static final int[] WILD = {Integer.MIN_VALUE, Integer.MIN_VALUE + 1, -1000001, -1000000, -6561, -100,
        -99, -33, -32, -10, -9, -8, -1, 0, 1, 2, 3, 4, 7, 8, 9, 10, 31, 32, 33, 64, 99, 100, 255, 256, 2187, 6560,
        6561, 6562, 19683, 1000000, 1000001, 1 << 30, Integer.MAX_VALUE - 1, Integer.MAX_VALUE};
    private static final Due DUE = new Due("WildCallsTest");

    private WildCallsTest() { }

    public static void main(String[] args) {
        for (int seed = 0; seed < 60; seed++) {
            Random random = new Random(seed);
            SpaceWalls space = new SpaceWalls(random.nextBoolean() ? 1 + random.nextInt(3) : any(random));
            for (int call = 0; call < CALLS; call++) {
                callSome(space, random, seed);
            }
        }
        refusedChangesNothing();
        DUE.end();
    }

    private static int any(Random random) {
        return switch (random.nextInt(4)) {
            case 0 -> WILD[random.nextInt(WILD.length)];
            case 1 -> random.nextInt();
            case 2 -> random.nextInt(6561);
            default -> random.nextInt(19) - 9;
        };
    }

    private static void callSome(SpaceWalls space, Random random, int seed) {
        int a = any(random);
        int b = any(random);
        int c = any(random);
        int which = random.nextInt(24);
        String call = "seed " + seed + " call of kind " + which + " with " + a + " " + b + " " + c;
        try {
            long got = answer(space, which, a, b, c, random);
            DUE.holds(call + " answered " + got, got >= -60000 && got <= 60000);
        } catch (RuntimeException thrown) {
            DUE.holds(call + " threw " + thrown, false);
        }
    }

    private static long answer(SpaceWalls space, int which, int a, int b, int c, Random random) {
        return switch (which) {
            case 0 -> space.wall(a, b, c, any(random));
            case 1 -> space.take(a) ? 1 : 0;
            case 2 -> space.told(a, b);
            case 3 -> space.row(a, b, c);
            case 4 -> space.faces(a);
            case 5 -> space.face(a, b);
            case 6 -> space.width(a);
            case 7 -> space.bounded(a) ? 1 : 0;
            case 8 -> space.boundedRooms();
            case 9 -> space.poly(a);
            case 10 -> space.without(a, b);
            case 11 -> space.on(a, b);
            case 12 -> space.walls(a);
            case 13 -> space.beside(a, b);
            case 14 -> space.way(a, b);
            case 15 -> space.step(a, b);
            case 16 -> space.far();
            case 17 -> space.left(a);
            case 18 -> space.count(a);
            default -> space.wall(random.nextInt(19) - 9, space.count(0) > 1 ? random.nextInt(19) - 9 : 0,
                space.count(0) > 2 ? random.nextInt(19) - 9 : 0, random.nextInt(199) - 99);
        };
    }

    private static String state(SpaceWalls space) {
        StringBuilder text = new StringBuilder();
        for (int i = 0; i < 5; i++) {
            text.append(space.count(i)).append(' ');
        }
        for (int wall = 0; wall < 9; wall++) {
            for (int what = 0; what < 4; what++) {
                text.append(space.told(wall, what)).append(' ');
            }
        }
        for (int i = 0; i < 60; i++) {
            text.append(space.face(space.count(0), i)).append(' ');
        }
        text.append(space.poly(0)).append(' ').append(space.boundedRooms()).append(' ').append(space.left(7));
        return text.toString();
    }

    private static void refusedChangesNothing() {
        for (int numbers = 1; numbers <= 3; numbers++) {
            for (int many = 0; many <= 8; many++) {
                SpaceWalls space = new SpaceWalls(numbers);
                for (int k = 0; k < many; k++) {
                    space.wall(1, numbers > 1 ? k - 3 : 0, numbers > 2 ? (k * k) % 9 : 0, k);
                }
                String before = state(space);
                refuse(space, many);
                DUE.holds("refused calls change nothing", before.equals(state(space)));
            }
        }
    }

    private static void refuse(SpaceWalls space, int many) {
        DUE.is("no wall", space.wall(0, 0, 0, 5), -1);
        DUE.is("no wall", space.wall(10, 0, 0, 5), -1);
        DUE.is("no wall", space.wall(1, 0, 0, 100), -1);
        if (many > 0) {
            DUE.is("there already", space.wall(-space.told(0, 0), -space.told(0, 1), -space.told(0, 2),
                -space.told(0, 3)), -1);
        }
        if (many == 8) {
            DUE.is("eight are", space.wall(1, 0, 0, 77), -1);
        }
        DUE.is("none such", space.take(many), false);
        DUE.is("none such", space.take(-1), false);
        DUE.is("none such", space.row(1000001, 0, 0), -1);
        DUE.is("none such", space.left(9), -1);
    }
}
