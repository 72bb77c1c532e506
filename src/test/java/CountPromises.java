/** Promises 19 and 20: left, count. */
final class CountPromises {
    private static final int NONE = Boundary.NONE;
    private static final int LEAST = Boundary.LEAST;
    private static final int GREATEST = Boundary.GREATEST;

    private final Boundary due;

    CountPromises(Boundary due) {
        this.due = due;
    }

    void ask() {
        left();
        count();
        countOthers();
    }

    private static boolean isPrime(int p) {
        int divisors = 0;
        for (int q = 1; q <= p; q++) {
            divisors += p % q == 0 ? 1 : 0;
        }
        return divisors == 2;
    }

    private void left() {
        due.promise(19, "How many are LEFT for a prime; NONE if it is none, or not 2 .. 31.");
        int[] wild = {LEAST, LEAST + 2, -31, -29, -5, -3, -2, 97, 127, 256 + 2, 256 + 31, 961, 8191, 65536 + 2,
            GREATEST - 1, GREATEST};
        for (int d = 1; d <= 3; d++) {
            int numbers = d;
            Boundary.Maker maker = () -> Spaces.slices(numbers, 1);
            for (int n = -1; n <= 64; n++) {
                int p = n;
                if (p >= 2 && p <= 31 && isPrime(p)) {
                    due.is("x = 0 round " + p, maker.make().left(p), (p - 1) * Spaces.power(p, numbers - 1));
                    due.is("no walls round " + p, new SpaceWalls(numbers).left(p), Spaces.power(p, numbers));
                } else {
                    due.refused("round " + p, maker, s -> s.left(p), NONE);
                    due.refused("no walls round " + p, () -> new SpaceWalls(numbers), s -> s.left(p), NONE);
                }
            }
            for (int p : wild) {
                due.refused("round " + p, maker, s -> s.left(p), NONE);
            }
        }
        SpaceWalls halves = Spaces.slices(3, 2);
        due.is("x = 0 and x = 1 round 2: none is left", halves.left(2), 0);
        due.is("x = 0 and x = 1 round 3", halves.left(3), 9);
        due.is("x = 0 and x = 1 round 31", halves.left(31), 29 * 31 * 31);
        for (int many = 0; many <= 8; many++) {
            due.is(many + " places round 7", Spaces.slices(1, many).left(7), Math.max(0, 7 - many));
            due.is(many + " places round 31", Spaces.slices(1, many).left(31), 31 - many);
        }
    }

    private void count() {
        due.promise(20, "0 NUMBERS, 1 WALLS, 2 ROOMS, 3 FACES, 4 RANK of all WALLS.");
        for (int numbers = 1; numbers <= 3; numbers++) {
            for (int many = 0; many <= 8; many++) {
                int faces = 0;
                for (int walls = 0; walls <= numbers; walls++) {
                    faces += Spaces.choose(many, walls) * Spaces.parts(numbers - walls, many - walls);
                }
                int[] general = {numbers, many, Spaces.parts(numbers, many), faces, Math.min(many, numbers)};
                int[] slices = {numbers, many, many + 1, 2 * many + 1, Math.min(many, 1)};
                for (int what = 0; what < 5; what++) {
                    due.is(many + " walls in " + numbers + ", count " + what,
                        Spaces.general(numbers, many).count(what), general[what]);
                    due.is(many + " walls side by side in " + numbers + ", count " + what,
                        Spaces.slices(numbers, many).count(what), slices[what]);
                }
            }
        }
    }

    private void countOthers() {
        due.promise(20, "NONE for others.");
        int[] others = {LEAST, -256, -2, -1, 5, 6, 7, 256, 260, GREATEST};
        for (int d = 1; d <= 3; d++) {
            int numbers = d;
            for (int n = 0; n <= 8; n += 4) {
                int many = n;
                Boundary.Maker maker = () -> Spaces.general(numbers, many);
                for (int what : others) {
                    due.refused(many + " walls, count " + what, maker, s -> s.count(what), NONE);
                }
                due.is(many + " walls, count 0", maker.make().count(0), numbers);
                due.is(many + " walls, count 4", maker.make().count(4), Math.min(numbers, many));
            }
        }
    }
}
