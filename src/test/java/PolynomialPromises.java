/** Promises 11 to 13: poly, without, on. */
final class PolynomialPromises {
    private static final int LEAST = Boundary.LEAST;
    private static final int GREATEST = Boundary.GREATEST;
    private static final int[] NO_WALLS = {LEAST, -256, -32, -2, -1, 8, 9, 31, 32, 33, 256, GREATEST};

    private final Boundary due;

    PolynomialPromises(Boundary due) {
        this.due = due;
    }

    void ask() {
        poly();
        without();
        on();
    }

    /** Of walls in general position. */
    private static int factorDue(int numbers, int many, int power) {
        int walls = numbers - power;
        return (walls % 2 == 0 ? 1 : -1) * Spaces.choose(many, walls);
    }

    private static int[] noPowers(int numbers) {
        return new int[] {LEAST, LEAST + 1, -256, -2, -1, numbers + 1, numbers + 2, 256, GREATEST};
    }

    private void poly() {
        due.promise(11, "What goes with t to the power of i in the POLYNOMIAL; 0 for no such power.");
        for (int d = 1; d <= 3; d++) {
            int numbers = d;
            for (int n = 0; n <= 8; n++) {
                int many = n;
                Boundary.Maker maker = () -> Spaces.general(numbers, many);
                String of = many + " walls in " + numbers + ", power ";
                for (int i = 0; i <= numbers; i++) {
                    due.is(of + i, maker.make().poly(i), factorDue(numbers, many, i));
                }
                for (int i : noPowers(numbers)) {
                    due.refused(of + i, maker, s -> s.poly(i), 0);
                }
            }
        }
    }

    private void without() {
        due.promise(12, "In that of all WALLS but one; 0 likewise, or if there is none such.");
        for (int d = 1; d <= 3; d++) {
            int numbers = d;
            for (int n = 0; n <= 8; n++) {
                int many = n;
                Boundary.Maker maker = () -> Spaces.general(numbers, many);
                String of = many + " walls in " + numbers + ", without ";
                for (int wall = 0; wall < many; wall++) {
                    for (int i = 0; i <= numbers; i++) {
                        due.is(of + wall + ", power " + i, maker.make().without(wall, i),
                            factorDue(numbers, many - 1, i));
                    }
                }
                for (int wall : NO_WALLS) {
                    due.refused(of + wall, maker, s -> s.without(wall, numbers), 0);
                }
                due.refused(of + "the next", maker, s -> s.without(many, numbers), 0);
                for (int i : noPowers(numbers)) {
                    due.refused(of + "the last, power " + i, maker, s -> s.without(many - 1, i), 0);
                }
            }
        }
        // x = 0, y = 0, x + y = 0 and x = 1: the first and the last are side by side.
        SpaceWalls space = Spaces.of(2, 1, 0, 0, 0, 0, 1, 0, 0, 1, 1, 0, 0, 1, 0, 0, 1);
        int[][] factors = {{3, -3, 1}, {2, -3, 1}, {2, -3, 1}, {2, -3, 1}};
        for (int wall = 0; wall < factors.length; wall++) {
            for (int i = 0; i < 3; i++) {
                due.is("without " + wall + " of a bundle, power " + i, space.without(wall, i), factors[wall][i]);
            }
        }
        due.is("all walls are there still", space.count(1), 4);
        for (int numbers = 1; numbers <= 3; numbers++) {
            SpaceWalls single = Spaces.slices(numbers, 1);
            due.is("without the only wall", single.without(0, numbers), 1);
            due.is("without the only wall, power below", single.without(0, numbers - 1), 0);
        }
    }

    private void on() {
        due.promise(13, "In that ON a WALL; 0 likewise.");
        for (int d = 1; d <= 3; d++) {
            int numbers = d;
            for (int n = 0; n <= 8; n++) {
                int many = n;
                Boundary.Maker maker = () -> Spaces.general(numbers, many);
                String of = many + " walls in " + numbers + ", on ";
                for (int wall = 0; wall < many; wall++) {
                    for (int i = 0; i < numbers; i++) {
                        due.is(of + wall + ", power " + i, maker.make().on(wall, i),
                            factorDue(numbers - 1, many - 1, i));
                    }
                }
                for (int wall : NO_WALLS) {
                    due.refused(of + wall, maker, s -> s.on(wall, numbers - 1), 0);
                }
                due.refused(of + "the next", maker, s -> s.on(many, numbers - 1), 0);
                for (int i : noPowers(numbers - 1)) {
                    due.refused(of + "the last, power " + i, maker, s -> s.on(many - 1, i), 0);
                }
            }
        }
        for (int numbers = 1; numbers <= 3; numbers++) {
            SpaceWalls single = Spaces.slices(numbers, 1);
            due.is("on the only wall", single.on(0, numbers - 1), 1);
            due.is("on the only wall, next power", single.on(0, numbers), 0);
            due.is("on the only wall, power below", single.on(0, numbers - 2), 0);
        }
    }
}
