/** Promises 6 to 10: faces, face, width, bounded, boundedRooms. */
final class FacePromises {
    private static final int NONE = Boundary.NONE;
    private static final int LEAST = Boundary.LEAST;
    private static final int GREATEST = Boundary.GREATEST;

    private final Boundary due;

    FacePromises(Boundary due) {
        this.due = due;
    }

    void ask() {
        faces();
        face();
        width();
        bounded();
        boundedRooms();
    }

    /** Of walls in general position: on each heap of d - width walls, as many as the others make there. */
    private static int facesDue(int numbers, int many, int width) {
        int walls = numbers - width;
        return Spaces.choose(many, walls) * Spaces.parts(width, many - walls);
    }

    private void faces() {
        due.promise(6, "How many FACES of a WIDTH there are; NONE for no such WIDTH (0 .. d).");
        for (int d = 1; d <= 3; d++) {
            int numbers = d;
            int[] none = {LEAST, -256, -2, -1, numbers + 1, numbers + 2, 256, GREATEST};
            for (int n = 0; n <= 8; n++) {
                int many = n;
                String of = many + " walls in " + numbers + ", ";
                SpaceWalls general = Spaces.general(numbers, many);
                SpaceWalls slices = Spaces.slices(numbers, many);
                for (int width = 0; width <= numbers; width++) {
                    due.is(of + "faces " + width, general.faces(width), facesDue(numbers, many, width));
                    due.is(of + "side by side, faces " + width, slices.faces(width),
                        width == numbers ? many + 1 : width == numbers - 1 ? many : 0);
                }
                for (int width : none) {
                    due.refused(of + "faces " + width, () -> Spaces.general(numbers, many), s -> s.faces(width), NONE);
                }
            }
        }
    }

    private void face() {
        due.promise(7, "The ROW of the i-th FACE of a WIDTH (from 0 on, by ROWS); NONE if there is none such.");
        int[] none = {LEAST, -256, -2, -1, 577, 6561, GREATEST};
        for (int d = 1; d <= 3; d++) {
            int numbers = d;
            for (int n = 0; n <= 8; n += 4) {
                int many = n;
                Boundary.Maker maker = () -> Spaces.general(numbers, many);
                for (int w = 0; w <= numbers; w++) {
                    int width = w;
                    String of = many + " walls in " + numbers + ", width " + width + ", ";
                    int faces = maker.make().faces(width);
                    askRows(of, maker.make(), width, faces);
                    due.refused(of + "behind the last", maker, s -> s.face(width, faces), NONE);
                    due.refused(of + "after that", maker, s -> s.face(width, faces + 1), NONE);
                    for (int i : none) {
                        due.refused(of + "face " + i, maker, s -> s.face(width, i), NONE);
                    }
                }
                int[] noWidths = {LEAST, -2, -1, numbers + 1, numbers + 2, GREATEST};
                for (int width : noWidths) {
                    due.refused(many + " walls in " + numbers + ", no width " + width, maker,
                        s -> s.face(width, 0), NONE);
                }
            }
        }
        SpaceWalls line = Spaces.of(1, 1, 0, 0, 1, 1, 0, 0, 0);
        int[] parts = {0, 6, 8};
        for (int i = -1; i <= 3; i++) {
            due.is("a line's part " + i, line.face(1, i), i < 0 || i > 2 ? NONE : parts[i]);
        }
        int[] places = {3, 7};
        for (int i = -1; i <= 2; i++) {
            due.is("a line's place " + i, line.face(0, i), i < 0 || i > 1 ? NONE : places[i]);
        }
        due.is("no walls, the first", new SpaceWalls(2).face(2, 0), 0);
        due.is("no walls, the second", new SpaceWalls(2).face(2, 1), NONE);
    }

    /** All rows of a width, each greater than the one before; the first and the last are of that width. */
    private void askRows(String of, SpaceWalls space, int width, int faces) {
        int before = -1;
        for (int i = 0; i < faces; i++) {
            int row = space.face(width, i);
            due.is(of + "face " + i + " is behind face " + (i - 1), row > before, true);
            before = row;
        }
        for (int i = 0; i < faces; i += Math.max(1, faces - 1)) {
            due.is(of + "width of face " + i, space.width(space.face(width, i)), width);
        }
    }

    private void width() {
        due.promise(8, "The WIDTH of the FACE with a ROW; NONE if there is none such.");
        for (int d = 1; d <= 3; d++) {
            int numbers = d;
            for (int n = 0; n <= 8; n++) {
                int many = n;
                int rows = Spaces.power(3, many);
                Boundary.Maker maker = () -> Spaces.slices(numbers, many);
                int[] none = {LEAST, -6561, -rows, -1, rows, rows + 1, 3 * rows - 1, 6561, 6562, 19683, GREATEST};
                for (int row : none) {
                    due.refused(many + " walls, width " + row, maker, s -> s.width(row), NONE);
                }
                due.is(many + " walls, below all", maker.make().width(0), numbers);
                due.is(many + " walls, above all", maker.make().width(rows - 1), numbers);
                for (int k = 0; k < many; k++) {
                    int power = Spaces.power(3, k);
                    due.is(many + " walls, on " + k, maker.make().width(2 * power - 1), numbers - 1);
                    // Above wall k, but below or on those before it, there is no place.
                    due.is(many + " walls, only above " + k, maker.make().width(2 * power), k == 0 ? numbers : NONE);
                    due.is(many + " walls, only on " + k, maker.make().width(power), k == 0 ? numbers - 1 : NONE);
                }
            }
        }
        for (int e = -1; e <= 1; e++) {
            int third = e;
            Boundary.Maker maker = () -> Spaces.of(2, 1, 0, 0, 0, 0, 1, 0, 0, 1, 1, 0, third);
            if (e == 0) {
                due.is("three walls through a place", maker.make().width(13), 0);
            } else {
                due.refused("three walls that just miss", maker, s -> s.width(13), NONE);
            }
        }
        allRows();
    }

    /** Every row that eight walls can have, 500 to an object. */
    private void allRows() {
        int[] faces = new int[4];
        SpaceWalls space = null;
        for (int row = 0; row < 6561; row++) {
            if (row % 500 == 0) {
                space = Spaces.general(3, 8);
            }
            int width = space.width(row);
            if (width >= 0 && width < faces.length) {
                faces[width]++;
            } else {
                due.is("width of no face " + row, width, NONE);
            }
        }
        for (int width = 0; width < faces.length; width++) {
            due.is("rows of width " + width, faces[width], facesDue(3, 8, width));
        }
    }

    private void bounded() {
        due.promise(9, "Whether a ROOM (its ROW) is BOUNDED; false if it is none.");
        int[] open = {0, 2, 6, 20, 24, 26};
        due.is("the triangle", Spaces.triangle().bounded(8), true);
        for (int room : open) {
            due.is("round the triangle, " + room, Spaces.triangle().bounded(room), false);
        }
        // The corners 4, 14, 16 and the edges 5, 7, 17 are bounded, but no rooms; 18 has no place.
        int[] none = {LEAST, -8, -1, 4, 5, 7, 14, 16, 17, 18, 27, 27 + 8, 6561, 6561 + 8, GREATEST};
        for (int row : none) {
            due.refusedAsFalse("no room of the triangle, " + row, Spaces::triangle, s -> s.bounded(row) ? 1 : 0);
        }
        for (int many = 0; many <= 8; many++) {
            for (int numbers = 1; numbers <= 3; numbers++) {
                SpaceWalls space = Spaces.slices(numbers, many);
                for (int k = 0; k <= many; k++) {
                    due.is(many + " walls in " + numbers + ", room " + k, space.bounded(Spaces.power(3, k) - 1),
                        numbers == 1 && k > 0 && k < many);
                    due.is(many + " walls in " + numbers + ", on wall " + k, space.bounded(2 * Spaces.power(3, k) - 1),
                        false);
                }
            }
        }
        SpaceWalls cube = Spaces.cube();
        int inside = 2 + 6 + 18;
        due.is("inside the cube", cube.bounded(inside), true);
        due.is("a side of the cube", cube.bounded(inside - 1), false);
        due.is("beside the cube", cube.bounded(inside - 2), false);
        due.is("a side is taken", cube.take(0), true);
        due.is("inside what is left", cube.bounded(inside / 3), false);
        SpaceWalls corner = new SpaceWalls(3);
        int[][] walls = {{1, 0, 0, 0}, {0, 1, 0, 0}, {0, 0, 1, 0}, {1, 1, 1, 1}};
        for (int k = 0; k < 4; k++) {
            corner.wall(walls[k][0], walls[k][1], walls[k][2], walls[k][3]);
            due.is("a corner of " + (k + 1) + " walls", corner.bounded(26), k == 3);
            due.is("its other side", corner.bounded(26 + 54), false);
        }
    }

    private void boundedRooms() {
        due.promise(10, "How many ROOMS are BOUNDED.");
        for (int numbers = 1; numbers <= 3; numbers++) {
            for (int many = 0; many <= 8; many++) {
                due.is(many + " walls in " + numbers, Spaces.general(numbers, many).boundedRooms(),
                    many == 0 ? 0 : Spaces.choose(many - 1, numbers));
                due.is(many + " walls side by side in " + numbers, Spaces.slices(numbers, many).boundedRooms(),
                    numbers == 1 ? Math.max(0, many - 1) : 0);
            }
        }
        for (int e = -1; e <= 1; e++) {
            due.is("x + y = " + e, Spaces.of(2, 1, 0, 0, 0, 0, 1, 0, 0, 1, 1, 0, e).boundedRooms(), e == 0 ? 0 : 1);
            SpaceWalls deep = Spaces.of(3, 1, 0, 0, 0, 0, 1, 0, 0, 0, 0, 1, 0, 1, 1, 1, e);
            due.is("x + y + z = " + e, deep.boundedRooms(), e == 0 ? 0 : 1);
        }
        due.is("cube", Spaces.cube().boundedRooms(), 1);
        due.is("octagon", Spaces.octagon().boundedRooms(), 17);
        SpaceWalls space = Spaces.tube();
        due.is("tube", space.boundedRooms(), 0);
        space.wall(0, 0, 1, 0);
        due.is("tube with one end", space.boundedRooms(), 0);
        space.wall(0, 0, 1, 1);
        due.is("tube with two ends", space.boundedRooms(), 1);
        space.take(3);
        due.is("tube with the other end", space.boundedRooms(), 0);
    }
}
