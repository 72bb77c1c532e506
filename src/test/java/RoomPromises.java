/** Promises 14 to 18: walls, beside, way, step, far. */
final class RoomPromises {
    private static final int NONE = Boundary.NONE;
    private static final int LEAST = Boundary.LEAST;
    private static final int GREATEST = Boundary.GREATEST;
    // Of the triangle: no such numbers, corners, edges, a row without a place, rooms of more walls.
    private static final int[] NO_ROOMS = {LEAST, -27, -26, -8, -2, -1, 1, 4, 5, 7, 13, 14, 16, 17, 18, 25, 27, 28,
        27 + 8, 54 + 8, 6560, 6561, 6561 + 8, GREATEST};
    private static final int[] NO_WALLS = {LEAST, -256, -32, -3, -2, -1, 3, 4, 7, 8, 9, 32, 256, GREATEST};

    private final Boundary due;

    RoomPromises(Boundary due) {
        this.due = due;
    }

    void ask() {
        walls();
        beside();
        way();
        step();
        far();
    }

    /** The room with so many of the slices below it. */
    private static int slice(int below) {
        return Spaces.power(3, below) - 1;
    }

    private void walls() {
        due.promise(14,
            "The WALLS that are OF a ROOM (the sum of 2 to the power of their numbers); NONE if it is none.");
        for (int numbers = 1; numbers <= 3; numbers++) {
            for (int many = 0; many <= 8; many++) {
                SpaceWalls space = Spaces.slices(numbers, many);
                for (int k = 0; k <= many; k++) {
                    int above = k < many ? 1 << k : 0;
                    int below = k > 0 ? 1 << (k - 1) : 0;
                    due.is(many + " walls in " + numbers + ", of room " + k, space.walls(slice(k)), above + below);
                }
                due.is(many + " walls, no room more", space.walls(slice(many + 1)), NONE);
            }
        }
        SpaceWalls ring = Spaces.octagon();
        due.is("all eight", ring.walls(ring.row(0, 0, 0)), 255);
        due.is("the last alone goes", ring.take(7), true);
        due.is("the first seven", ring.walls(ring.row(0, 0, 0)), 127);
        int[][] rooms = {{0, 3}, {2, 7}, {6, 7}, {8, 7}, {20, 6}, {24, 5}, {26, 7}};
        for (int[] room : rooms) {
            due.is("of the triangle's room " + room[0], Spaces.triangle().walls(room[0]), room[1]);
        }
        for (int row : NO_ROOMS) {
            due.refused("of no room " + row, Spaces::triangle, s -> s.walls(row), NONE);
            due.refused("no walls, of no room", () -> new SpaceWalls(2), s -> s.walls(row), NONE);
        }
    }

    private void beside() {
        due.promise(15, "The ROW of the ROOM BESIDE one at a WALL; NONE if there is none such.");
        for (int numbers = 1; numbers <= 3; numbers++) {
            for (int many = 0; many <= 8; many++) {
                SpaceWalls space = Spaces.slices(numbers, many);
                for (int k = 0; k <= many; k++) {
                    int next = k < many ? slice(k + 1) : NONE;
                    int last = k > 0 ? slice(k - 1) : NONE;
                    String of = many + " walls in " + numbers + ", room " + k;
                    due.is(of + " at the wall above", space.beside(slice(k), k), next);
                    due.is(of + " at the wall below", space.beside(slice(k), k - 1), last);
                    due.is(of + " at one farther up", space.beside(slice(k), k + 1), NONE);
                    due.is(of + " at one farther down", space.beside(slice(k), k - 2), NONE);
                }
            }
        }
        int[][] triangle = {{8, 0, 6}, {8, 1, 2}, {8, 2, 26}, {26, 2, 8}, {0, 0, 2}, {0, 1, 6}};
        for (int[] t : triangle) {
            due.is("the triangle's " + t[0] + " at " + t[1], Spaces.triangle().beside(t[0], t[1]), t[2]);
        }
        due.refused("at a wall that is none of the room", Spaces::triangle, s -> s.beside(20, 0), NONE);
        due.refused("at another", Spaces::triangle, s -> s.beside(24, 1), NONE);
        due.refused("below all at the third", Spaces::triangle, s -> s.beside(0, 2), NONE);
        for (int wall : NO_WALLS) {
            due.refused("at no wall " + wall, Spaces::triangle, s -> s.beside(8, wall), NONE);
            due.refused("no walls, at " + wall, () -> new SpaceWalls(2), s -> s.beside(0, wall), NONE);
        }
        for (int row : NO_ROOMS) {
            for (int k = 0; k < 3; k++) {
                int wall = k;
                due.refused("no room " + row + " at " + k, Spaces::triangle, s -> s.beside(row, wall), NONE);
            }
        }
        for (int row = 0; row < 27; row++) {
            askEveryWall(Spaces.triangle(), row);
        }
    }

    /** Beside is a room of the other sign at that wall, and from there the first is beside. */
    private void askEveryWall(SpaceWalls space, int row) {
        int walls = space.walls(row);
        for (int wall = 0; wall < 3; wall++) {
            int other = space.beside(row, wall);
            boolean isOf = walls != NONE && (walls >> wall & 1) == 1;
            due.is("there is one beside " + row + " at " + wall, other != NONE, isOf);
            if (isOf) {
                due.is("from " + row + " through " + wall, Math.abs(other - row), 2 * Spaces.power(3, wall));
                due.is("and back", space.beside(other, wall), row);
            }
        }
    }

    private void way() {
        due.promise(16, "How long the WAY between two ROOMS is; NONE if one is none.");
        for (int numbers = 1; numbers <= 3; numbers++) {
            SpaceWalls space = Spaces.slices(numbers, 8);
            for (int from = 0; from <= 8; from++) {
                for (int to = 0; to <= 8; to++) {
                    due.is("from " + from + " to " + to, space.way(slice(from), slice(to)), Math.abs(from - to));
                }
            }
            due.is("no walls", new SpaceWalls(numbers).way(0, 0), 0);
        }
        int[][] triangle = {{8, 8, 0}, {8, 26, 1}, {26, 8, 1}, {8, 0, 2}, {0, 26, 3}, {26, 0, 3}, {6, 20, 3}};
        for (int[] t : triangle) {
            due.is("the triangle's " + t[0] + " to " + t[1], Spaces.triangle().way(t[0], t[1]), t[2]);
        }
        for (int row : NO_ROOMS) {
            due.refused("from no room " + row, Spaces::triangle, s -> s.way(row, 8), NONE);
            due.refused("to no room " + row, Spaces::triangle, s -> s.way(8, row), NONE);
            due.refused("from it to itself " + row, Spaces::triangle, s -> s.way(row, row), NONE);
            due.refused("no walls, from " + row, () -> new SpaceWalls(2), s -> s.way(row, 0), NONE);
            due.refused("no walls, to " + row, () -> new SpaceWalls(2), s -> s.way(0, row), NONE);
        }
    }

    private void step() {
        due.promise(17, "The WALL of its first STEP; NONE if one is none, or both are one.");
        for (int numbers = 1; numbers <= 3; numbers++) {
            SpaceWalls space = Spaces.slices(numbers, 8);
            for (int from = 0; from <= 8; from++) {
                for (int to = 0; to <= 8; to++) {
                    int wall = from == to ? NONE : from < to ? from : from - 1;
                    due.is("from " + from + " to " + to, space.step(slice(from), slice(to)), wall);
                }
            }
        }
        int[][] triangle = {{8, 26, 2}, {8, 0, 0}, {0, 8, 0}, {0, 26, 0}, {20, 6, 1}, {20, 8, 1}, {20, 0, 2},
            {24, 8, 0}, {26, 8, 2}, {26, 0, 0}};
        for (int[] t : triangle) {
            due.is("the triangle's " + t[0] + " to " + t[1], Spaces.triangle().step(t[0], t[1]), t[2]);
        }
        int[] rooms = {0, 2, 6, 8, 20, 24, 26};
        for (int room : rooms) {
            due.refused("both are " + room, Spaces::triangle, s -> s.step(room, room), NONE);
        }
        for (int numbers = 1; numbers <= 3; numbers++) {
            int d = numbers;
            due.refused("no walls, both are one", () -> new SpaceWalls(d), s -> s.step(0, 0), NONE);
        }
        for (int row : NO_ROOMS) {
            due.refused("from no room " + row, Spaces::triangle, s -> s.step(row, 8), NONE);
            due.refused("to no room " + row, Spaces::triangle, s -> s.step(8, row), NONE);
            due.refused("from it to itself " + row, Spaces::triangle, s -> s.step(row, row), NONE);
        }
    }

    private void far() {
        due.promise(18, "The length of the longest WAY between two ROOMS.");
        for (int numbers = 1; numbers <= 3; numbers++) {
            for (int many = 0; many <= 8; many++) {
                due.is(many + " walls in " + numbers, Spaces.general(numbers, many).far(), many);
                due.is(many + " walls side by side in " + numbers, Spaces.slices(numbers, many).far(), many);
            }
        }
        SpaceWalls space = Spaces.octagon();
        due.is("octagon", space.far(), 8);
        due.is("a ninth is refused", space.wall(1, 0, 0, 9), NONE);
        due.is("octagon still", space.far(), 8);
        due.is("one goes", space.take(0), true);
        due.is("seven", space.far(), 7);
        due.is("none such", space.take(7), false);
        due.is("seven still", space.far(), 7);
        int longest = 0;
        SpaceWalls triangle = Spaces.triangle();
        for (int from = 0; from < 7; from++) {
            for (int to = 0; to < 7; to++) {
                longest = Math.max(longest, triangle.way(triangle.face(2, from), triangle.face(2, to)));
            }
        }
        due.is("triangle", triangle.far(), longest);
        due.is("triangle's walls", longest, 3);
    }
}
