/** Promises 1 to 5: a new object, wall, take, told, row. */
final class WallPromises {
    private static final int NONE = Boundary.NONE;
    private static final int LEAST = Boundary.LEAST;
    private static final int GREATEST = Boundary.GREATEST;

    private final Boundary due;

    WallPromises(Boundary due) {
        this.due = due;
    }

    void ask() {
        newObject();
        wallComes();
        wallRefused();
        take();
        told();
        row();
    }

    private void newObject() {
        due.promise(1, "SPACE of so many NUMBERS (1 .. 3; others count as the nearest of these), without WALLS.");
        int[] asked = {LEAST, LEAST + 1, -256, -3, -2, -1, 0, 1, 2, 3, 4, 5, 6, 256, 257, GREATEST};
        for (int numbers : asked) {
            int nearest = numbers < 1 ? 1 : numbers > 3 ? 3 : numbers;
            String of = "new SpaceWalls(" + numbers + "): ";
            SpaceWalls space = new SpaceWalls(numbers);
            int[] counts = {nearest, 0, 1, 1, 0};
            for (int what = 0; what < counts.length; what++) {
                due.is(of + "count " + what, space.count(what), counts[what]);
            }
            due.is(of + "no wall", space.told(0, 0), NONE);
            due.is(of + "greatest width", space.faces(nearest), 1);
            due.is(of + "no greater width", space.faces(nearest + 1), NONE);
            due.is(of + "ways round 2", space.left(2), 1 << nearest);
            due.is(of + "x = 0", space.wall(1, 0, 0, 0), 0);
            due.is(of + "y = 0", space.wall(0, 1, 0, 0), nearest > 1 ? 1 : NONE);
            due.is(of + "z = 0", space.wall(0, 0, 1, 0), nearest > 2 ? 2 : NONE);
            due.is(of + "walls", space.count(1), nearest);
        }
    }

    private void wallComes() {
        due.promise(2, "A WALL comes: its number.");
        for (int numbers = 1; numbers <= 3; numbers++) {
            SpaceWalls space = new SpaceWalls(numbers);
            for (int k = 0; k < 8; k++) {
                int[] w = Spaces.generalWall(numbers, k);
                due.is("wall " + k, space.wall(w[0], w[1], w[2], w[3]), k);
                due.is("walls with " + k, space.count(1), k + 1);
                due.is("rooms with " + k, space.count(2), Spaces.parts(numbers, k + 1));
            }
            due.is("the first goes", space.take(0), true);
            due.is("the last number is free", space.wall(9, 0, 0, 98), 7);
            due.is("the first is now what was the second", space.told(0, 3), Spaces.generalWall(numbers, 1)[3]);
            int d = numbers;
            replaceEach("eight in general in " + d, () -> Spaces.general(d, 8));
            replaceEach("eight side by side in " + d, () -> Spaces.slices(d, 8));
            if (d > 1) {
                replaceEach("eight through a place in " + d, () -> Spaces.bundle(d, 8));
            }
        }
        replaceEach("octagon", Spaces::octagon);
    }

    /** A wall comes for one that has gone: the object answers as one that never had the other. */
    private void replaceEach(String of, Boundary.Maker maker) {
        for (int wall = 0; wall < 8; wall++) {
            SpaceWalls space = maker.make();
            SpaceWalls twin = others(maker.make(), wall);
            due.is(of + ": it matters that " + wall + " is there", Answers.of(space).equals(Answers.of(twin)), false);
            due.is(of + ": " + wall + " goes", space.take(wall), true);
            due.is(of + ": another comes for " + wall, space.wall(9, 0, 0, 97), 7);
            due.is(of + ": the same comes to the others", twin.wall(9, 0, 0, 97), 7);
            due.same(of + ": after another came for " + wall, Answers.of(space), Answers.of(twin));
        }
    }

    private void wallRefused() {
        due.promise(2, "NONE if it is none, is there already, or 8 are.");
        for (int d = 1; d <= 3; d++) {
            int numbers = d;
            for (int n = 0; n <= 8; n++) {
                int many = n;
                Boundary.Maker maker = () -> Spaces.general(numbers, many);
                String with = "with " + many + " walls of " + numbers + " numbers: ";
                due.refused(with + "none, all 0", maker, s -> s.wall(0, 0, 0, 9), NONE);
                due.refused(with + "none, a is 10", maker, s -> s.wall(10, 0, 0, 9), NONE);
                due.refused(with + "none, e is -100", maker, s -> s.wall(1, 0, 0, -100), NONE);
                for (int k = 0; k < many; k += Math.max(1, many - 1)) {
                    int[] w = Spaces.generalWall(numbers, k);
                    due.refused(with + "wall " + k + " again", maker, s -> s.wall(w[0], w[1], w[2], w[3]), NONE);
                    due.refused(with + "wall " + k + " turned", maker, s -> s.wall(-w[0], -w[1], -w[2], -w[3]), NONE);
                }
                if (many < 8) {
                    due.is(with + "one more", maker.make().wall(9, 0, 0, 98), many);
                } else {
                    due.refused(with + "one more", maker, s -> s.wall(9, 0, 0, 98), NONE);
                }
            }
            SpaceWalls space = Spaces.general(numbers, 8);
            due.is("a ninth", space.wall(9, 0, 0, 98), NONE);
            due.is("room for it", space.take(3), true);
            due.is("it may come now", space.wall(9, 0, 0, 98), 7);
            due.is("it is there already", space.wall(-9, 0, 0, -98), NONE);
            due.is("it goes", space.take(7), true);
            due.is("it is not there any more", space.wall(-9, 0, 0, -98), 7);
        }
    }

    private void take() {
        due.promise(3, "A WALL goes (those of higher numbers have 1 less then): true; false if there is none such.");
        int[] never = {LEAST, -256, -8, -2, -1, 8, 9, 32, 256, GREATEST};
        for (int d = 1; d <= 3; d++) {
            int numbers = d;
            for (int n = 0; n <= 8; n++) {
                int many = n;
                for (int wall : never) {
                    due.refusedAsFalse("of " + many + ", take " + wall, () -> Spaces.general(numbers, many),
                        s -> s.take(wall) ? 1 : 0);
                }
                due.refusedAsFalse("of " + many + ", take the next", () -> Spaces.general(numbers, many),
                    s -> s.take(many) ? 1 : 0);
                takeEach(many + " walls in general in " + numbers, () -> Spaces.general(numbers, many));
                takeEach(many + " walls side by side in " + numbers, () -> Spaces.slices(numbers, many));
            }
        }
        takeEach("triangle", Spaces::triangle);
        takeEach("fan", Spaces::fan);
        takeEach("cube", Spaces::cube);
        takeEach("octagon", Spaces::octagon);
        takeEach("eight through a place in 2", () -> Spaces.bundle(2, 8));
        takeEach("eight through a place in 3", () -> Spaces.bundle(3, 8));
        takeEach("tube with two ends", () -> Spaces.of(3, 0, 0, 1, 0, 1, 0, 0, 0, 0, 1, 0, 0, 1, 1, 0, 2, 0, 0, 1, 1));
        SpaceWalls space = Spaces.general(3, 8);
        for (int left = 7; left >= 0; left--) {
            due.is("take one of " + (left + 1), space.take(left / 2), true);
            due.is("walls", space.count(1), left);
            due.is("rooms", space.count(2), Spaces.parts(3, left));
        }
        due.is("take one of none", space.take(0), false);
        due.is("rooms after that", space.count(2), 1);
        due.is("the next is the first", space.wall(1, 2, 3, 4), 0);
    }

    /** After a wall has gone, the object answers as one that only the others came to. */
    private void takeEach(String of, Boundary.Maker maker) {
        int many = maker.make().count(1);
        for (int wall = 0; wall < many; wall++) {
            SpaceWalls space = maker.make();
            SpaceWalls others = others(maker.make(), wall);
            // What it found out for these answers must not stay when the wall goes.
            due.is(of + ": it matters that " + wall + " is there", Answers.of(space).equals(Answers.of(others)), false);
            due.is(of + ": take " + wall, space.take(wall), true);
            due.same("after " + of + ": take " + wall, Answers.of(space), Answers.of(others));
        }
    }

    private static SpaceWalls others(SpaceWalls space, int wall) {
        SpaceWalls others = new SpaceWalls(space.count(0));
        for (int k = 0; k < space.count(1); k++) {
            if (k != wall) {
                others.wall(space.told(k, 0), space.told(k, 1), space.told(k, 2), space.told(k, 3));
            }
        }
        return others;
    }

    private void told() {
        due.promise(4, "Of a WALL: 0 a, 1 b, 2 c, 3 e; NONE for others, or if there is none such.");
        int[][] walls = {{-9, 9, -8, 99}, {9, -9, 9, -99}, {2, 4, 6, 8}};
        SpaceWalls space = Spaces.of(3, -9, 9, -8, 99, 9, -9, 9, -99, 2, 4, 6, 8);
        for (int wall = 0; wall < walls.length; wall++) {
            for (int what = 0; what < 4; what++) {
                due.is("told " + wall + " " + what, space.told(wall, what), walls[wall][what]);
            }
        }
        int[] others = {LEAST, -256, -4, -1, 4, 5, 256, GREATEST};
        int[] none = {LEAST, -256, -2, -1, 8, 9, 32, 256, GREATEST};
        for (int n = 0; n <= 8; n++) {
            int many = n;
            Boundary.Maker maker = () -> Spaces.general(3, many);
            for (int wall : none) {
                due.refused("told " + wall + " 0 of " + many, maker, s -> s.told(wall, 0), NONE);
                due.refused("told " + wall + " 3 of " + many, maker, s -> s.told(wall, 3), NONE);
            }
            due.refused("told " + many + " 0 of " + many, maker, s -> s.told(many, 0), NONE);
            for (int what : others) {
                due.refused("told 0 " + what + " of " + many, maker, s -> s.told(0, what), NONE);
                due.refused("told the last " + what + " of " + many, maker, s -> s.told(many - 1, what), NONE);
            }
            for (int wall = 0; wall < many; wall++) {
                due.is("told " + wall + " 0 of " + many, maker.make().told(wall, 0), Spaces.generalWall(3, wall)[0]);
                due.is("told " + wall + " 3 of " + many, maker.make().told(wall, 3), Spaces.generalWall(3, wall)[3]);
            }
        }
        SpaceWalls line = Spaces.of(1, -9, 0, 0, 1);
        due.is("b of a wall of 1 number", line.told(0, 1), 0);
        due.is("c of a wall of 1 number", line.told(0, 2), 0);
    }

    private void row() {
        due.promise(5, "The ROW of a PLACE of whole numbers (those that SPACE hasn't don't matter); NONE if one is"
            + " above 1000000, or below -1000000.");
        int[] near = {-1000000, -999999, -1, 0, 1, 999999, 1000000};
        int[] beyond = {LEAST, LEAST + 1, -1000002, -1000001, 1000001, 1000002, GREATEST - 1, GREATEST};
        for (int d = 1; d <= 3; d++) {
            int numbers = d;
            Boundary.Maker maker = () -> axes(numbers);
            for (int axis = 0; axis < 3; axis++) {
                boolean has = axis < numbers;
                for (int value : near) {
                    int[] at = {1, 1, 1};
                    at[axis] = value;
                    due.is(numbers + " numbers, number " + axis + " is " + value, maker.make().row(at[0], at[1], at[2]),
                        rowAtAxes(numbers, at));
                    due.is("no walls", new SpaceWalls(numbers).row(at[0], at[1], at[2]), 0);
                }
                for (int value : beyond) {
                    int[] at = {1, 1, 1};
                    at[axis] = value;
                    String call = numbers + " numbers, number " + axis + " is " + value;
                    if (has) {
                        due.refused(call, maker, s -> s.row(at[0], at[1], at[2]), NONE);
                        due.is(call + ", no walls", new SpaceWalls(numbers).row(at[0], at[1], at[2]), NONE);
                    } else {
                        due.is(call, maker.make().row(at[0], at[1], at[2]), rowAtAxes(numbers, at));
                        due.is(call + ", no walls", new SpaceWalls(numbers).row(at[0], at[1], at[2]), 0);
                    }
                }
            }
        }
        farOut();
    }

    /** x = 0, y = 0, z = 0, as many as there are. */
    private static SpaceWalls axes(int numbers) {
        SpaceWalls space = Spaces.of(numbers, 1, 0, 0, 0);
        if (numbers > 1) {
            space.wall(0, 1, 0, 0);
        }
        if (numbers > 2) {
            space.wall(0, 0, 1, 0);
        }
        return space;
    }

    private static int rowAtAxes(int numbers, int[] at) {
        int row = 0;
        for (int i = numbers - 1; i >= 0; i--) {
            row = 3 * row + 1 + Integer.signum(at[i]);
        }
        return row;
    }

    /** The greatest sums that a place can give: none of them may run over. */
    private void farOut() {
        int most = 1000000;
        SpaceWalls steep = Spaces.of(3, 9, 9, 9, 99, -9, -9, -9, 98, 9, -9, 9, -99, -9, 9, -9, 97);
        due.is("above all", steep.row(most, most, most), 2 + 0 + 18 + 0);
        due.is("below all", steep.row(-most, -most, -most), 0 + 6 + 0 + 54);
        due.is("greatest at the third", steep.row(most, -most, most), 2 + 0 + 18 + 0);
        due.is("least at the third", steep.row(-most, most, -most), 0 + 6 + 0 + 54);
        for (int more = -1; more <= 1; more++) {
            SpaceWalls one = Spaces.of(3, 9, 9, 9, 99);
            due.is("beside the wall far out, " + more, one.row(most, -most, 11 + more), 1 + more);
            SpaceWalls two = Spaces.of(2, 9, 9, 0, 0);
            due.is("at the far corner, " + more, two.row(most - 1, -most + 1 + more, 0), 1 + more);
        }
    }
}
