import java.util.ArrayList;
import java.util.List;

/** The sentences of "Terms" from number 2 on: each at its boundary and on both sides of it. */
final class CountTerms {
    private static final int NONE = Boundary.NONE;

    private final Boundary due;

    CountTerms(Boundary due) {
        this.due = due;
    }

    void ask() {
        polynomial();
        on();
        of();
        way();
        left();
        refused();
        constants();
    }

    private void polynomial() {
        due.terms("The POLYNOMIAL in t: the sum, over all heaps of WALLS that have a PLACE in common (the heap"
            + " without any, too), of t to the power of d less RANK of the heap; heaps of an odd number of WALLS"
            + " count less than 0.");
        for (int d = 1; d <= 3; d++) {
            for (int many = 0; many <= 8; many++) {
                SpaceWalls general = Spaces.general(d, many);
                SpaceWalls slices = Spaces.slices(d, many);
                for (int i = 0; i <= d; i++) {
                    int sign = (d - i) % 2 == 0 ? 1 : -1;
                    due.is(many + " walls in " + d + ", power " + i, general.poly(i),
                        sign * Spaces.choose(many, d - i));
                    due.is(many + " walls side by side in " + d + ", power " + i, slices.poly(i),
                        i == d ? 1 : i == d - 1 ? -many : 0);
                }
            }
        }
        for (int e = -1; e <= 1; e++) {
            // Three pairs of walls meet; the heap of all three takes 1 away, if it does.
            askPoly("x + y = " + e, Spaces.of(2, 1, 0, 0, 0, 0, 1, 0, 0, 1, 1, 0, e), e == 0 ? 2 : 3, -3, 1);
            askPoly("a fan less " + e, Spaces.of(3, 1, -1, 0, 0, 1, 0, -1, 0, 0, 1, -1, e), 0, e == 0 ? 2 : 3, -3, 1);
            askPoly("x + y + z = " + e, Spaces.of(3, 1, 0, 0, 0, 0, 1, 0, 0, 0, 0, 1, 0, 1, 1, 1, e),
                e == 0 ? -3 : -4, 6, -4, 1);
        }
        SpaceWalls bundle = new SpaceWalls(2);
        for (int k = 0; k < 8; k++) {
            bundle.wall(1, k, 0, 0);
            askPoly((k + 1) + " walls through a place", bundle, k, -k - 1, 1);
        }
    }

    private void askPoly(String name, SpaceWalls space, int... factors) {
        for (int i = 0; i < factors.length; i++) {
            due.is(name + ", power " + i, space.poly(i), factors[i]);
        }
    }

    private void on() {
        due.terms("That ON a WALL is the POLYNOMIAL of the sets of PLACES in which other WALLS meet it (each once,"
            + " if it meets it and isn't beside it), as WALLS of a SPACE of d - 1 NUMBERS.");
        for (int e = -1; e <= 1; e++) {
            int once = e == 0 ? -1 : -2;
            SpaceWalls flat = Spaces.of(2, 1, 0, 0, 0, 0, 1, 0, 0, 1, 1, 0, e);
            SpaceWalls fan = Spaces.of(3, 1, -1, 0, 0, 1, 0, -1, 0, 0, 1, -1, e);
            for (int wall = 0; wall < 3; wall++) {
                askOn("x + y = " + e, flat, wall, once, 1, 0);
                askOn("a fan less " + e, fan, wall, 0, once, 1, 0);
            }
            // On x = 0 are the lines y = 0, z = 0 and y + z = e.
            SpaceWalls deep = Spaces.of(3, 1, 0, 0, 0, 0, 1, 0, 0, 0, 0, 1, 0, 1, 1, 1, e);
            askOn("x + y + z = " + e, deep, 0, e == 0 ? 2 : 3, -3, 1, 0);
        }
        for (int more = -1; more <= 1; more++) {
            SpaceWalls strip = Spaces.of(2, 8, -8, 0, 0, 8, -8 + more, 0, 8);
            askOn("a strip that turns by " + more, strip, 0, more == 0 ? 0 : -1, 1, 0);
        }
        for (int many = 1; many <= 8; many++) {
            askOn(many + " places", Spaces.slices(1, many), many - 1, 1, 0);
            askOn(many + " walls side by side in 2", Spaces.slices(2, many), many - 1, 0, 1, 0);
            askOn(many + " walls side by side in 3", Spaces.slices(3, many), many - 1, 0, 0, 1, 0);
            askOn(many + " walls in 2", Spaces.general(2, many), 0, 1 - many, 1, 0);
            askOn(many + " walls in 3", Spaces.general(3, many), many - 1, Spaces.choose(many - 1, 2), 1 - many, 1, 0);
        }
    }

    private void askOn(String name, SpaceWalls space, int wall, int... factors) {
        for (int i = 0; i < factors.length; i++) {
            due.is(name + ", on " + wall + ", power " + i, space.on(wall, i), factors[i]);
        }
    }

    private void of() {
        due.terms("A WALL is one OF a ROOM, if the ROW that is otherwise at this WALL alone (0 for 2, 2 for 0) is a"
            + " ROOM, too: that is BESIDE it there.");
        for (int e = -1; e <= 1; e++) {
            // x + y = e is away from the room above all walls, or at its corner alone, or cuts that off.
            SpaceWalls flat = Spaces.of(2, 1, 0, 0, 0, 0, 1, 0, 0, 1, 1, 0, e);
            due.is("x + y = " + e + ", walls above all", flat.walls(26), e > 0 ? 7 : 3);
            due.is("x + y = " + e + ", beside at 2", flat.beside(26, 2), e > 0 ? 8 : NONE);
            due.is("x + y = " + e + ", walls below all", flat.walls(0), e < 0 ? 7 : 3);
            due.is("x + y = " + e + ", beside below all at 2", flat.beside(0, 2), e < 0 ? 18 : NONE);
        }
        SpaceWalls ring = Spaces.octagon();
        int middle = ring.row(0, 0, 0);
        for (int wall = 0; wall < 8; wall++) {
            // The odd walls are below the middle: its sign there is 2.
            int leap = (wall % 2 == 0 ? 2 : -2) * Spaces.power(3, wall);
            due.is("beside the middle at " + wall, ring.beside(middle, wall), middle + leap);
            due.is("and back", ring.beside(middle + leap, wall), middle);
            due.is("on wall " + wall + " is no room", ring.beside(middle + leap / 2, wall), NONE);
        }
        due.is("walls of the middle", ring.walls(middle), 255);
    }

    private void way() {
        due.terms("The WAY between two ROOMS is as long as there are WALLS at which they have other SIGNS; its first"
            + " STEP is through the least of these that is one of the ROOM.");
        for (int numbers = 1; numbers <= 3; numbers++) {
            SpaceWalls space = Spaces.slices(numbers, 8);
            for (int k = 0; k <= 8; k++) {
                int room = Spaces.power(3, k) - 1;
                due.is("from the first through " + k, space.way(0, room), k);
                due.is("from the last through " + (8 - k), space.way(6560, room), 8 - k);
                due.is("step up from " + k, space.step(room, 6560), k == 8 ? NONE : k);
                due.is("step down from " + k, space.step(room, 0), k - 1);
            }
        }
        // From below all walls the wall 1 is reached first, and wall 0 behind it.
        SpaceWalls turned = Spaces.of(1, 1, 0, 0, 2, 1, 0, 0, 1);
        due.is("the least that parts is none of the room", turned.step(0, 8), 1);
        due.is("it is one of the next room", turned.step(6, 8), 0);
        due.is("the least of the room does not part", turned.step(6, 0), 1);
        SpaceWalls ring = Spaces.octagon();
        int middle = ring.row(0, 0, 0);
        for (int wall = 0; wall < 8; wall++) {
            due.is("out through " + wall, ring.step(middle, ring.beside(middle, wall)), wall);
        }
        // Two of the walls that part are walls of the room: the lesser one counts.
        due.is("the lesser of 0 and 2", ring.step(middle, ring.row(9, 9, 0)), 0);
        due.is("the lesser of 1 and 3", ring.step(middle, ring.row(-9, -9, 0)), 1);
    }

    private void left() {
        due.terms("For a prime p (2 .. 31): LEFT are those of the p to the power of d ways to give each NUMBER one of"
            + " 0 .. p - 1, for which for no WALL a x + b y + c z less e is divided by p.");
        int[] primes = {2, 3, 5, 7, 11, 13, 17, 19, 23, 29, 31};
        for (int p : primes) {
            for (int d = 1; d <= 3; d++) {
                int sheet = Spaces.power(p, d - 1);
                due.is("round " + p + " in " + d + ", no walls", new SpaceWalls(d).left(p), p * sheet);
                for (int turn = -1; turn <= 1; turn++) {
                    due.is("round " + p + " in " + d + ", x = " + turn, Spaces.of(d, 1, 0, 0, turn).left(p),
                        (p - 1) * sheet);
                    // Once more round in either direction, x comes to the same number.
                    SpaceWalls round = Spaces.of(d, 1, 0, 0, 0, 1, 0, 0, p + turn, -1, 0, 0, p - turn);
                    due.is("round " + p + " in " + d + ", x = 0, p + " + turn + " and " + turn + " - p",
                        round.left(p), (turn == 0 ? p - 1 : p - 2) * sheet);
                }
            }
        }
        for (int e = -99; e <= 99; e++) {
            SpaceWalls threes = Spaces.of(2, 9, -6, 0, e);
            due.is("9 x - 6 y = " + e + " round 3", threes.left(3), e % 3 == 0 ? 0 : 9);
            due.is("9 x - 6 y = " + e + " round 2", threes.left(2), 2);
        }
        List<int[]> walls = new ArrayList<>();
        for (int k = 0; k < 8; k++) {
            walls.add(Spaces.generalWall(3, k));
        }
        Oracle oracle = new Oracle(3, walls);
        for (int p : primes) {
            due.is("eight walls round " + p, Spaces.general(3, 8).left(p), oracle.left(p));
        }
    }

    private void refused() {
        due.terms("What is refused changes nothing.");
        for (int numbers = 1; numbers <= 3; numbers++) {
            for (int many = 0; many <= 8; many++) {
                String state = many + " walls in " + numbers + ": ";
                SpaceWalls space = Spaces.general(numbers, many);
                String before = Answers.of(space);
                refusedWalls(state, space, numbers, many);
                refusedRows(state, space, numbers, Spaces.power(3, many));
                refusedOthers(state, space, numbers, many);
                due.same(state + "after all that", Answers.of(space), before);
                int[] next = Spaces.generalWall(numbers, Math.min(many, 7));
                due.is(state + "an eighth goes, if there is one", space.take(7), many == 8);
                due.is(state + "the next", space.wall(next[0], next[1], next[2], next[3]), Math.min(many, 7));
            }
        }
    }

    private void refusedWalls(String state, SpaceWalls space, int numbers, int many) {
        due.is(state + "wall 0 0 0 1", space.wall(0, 0, 0, 1), NONE);
        due.is(state + "wall 10 0 0 1", space.wall(10, 0, 0, 1), NONE);
        due.is(state + "wall 1 0 0 100", space.wall(1, 0, 0, 100), NONE);
        due.is(state + "wall 1 0 10 0", space.wall(1, 0, 10, 0), NONE);
        for (int k = 0; k < many; k++) {
            due.is(state + "wall " + k + " turned", space.wall(-space.told(k, 0), -space.told(k, 1),
                -space.told(k, 2), -space.told(k, 3)), NONE);
        }
        if (many == 8) {
            due.is(state + "a ninth", space.wall(9, 0, 0, 99), NONE);
        }
        int[] noWalls = {Boundary.LEAST, -1, many, many + 1, Boundary.GREATEST};
        for (int wall : noWalls) {
            due.is(state + "take " + wall, space.take(wall), false);
            due.is(state + "told " + wall, space.told(wall, 0), NONE);
            due.is(state + "without " + wall, space.without(wall, numbers), 0);
            due.is(state + "on " + wall, space.on(wall, numbers - 1), 0);
            due.is(state + "beside 0 " + wall, space.beside(0, wall), NONE);
        }
    }

    private void refusedRows(String state, SpaceWalls space, int numbers, int rows) {
        int[] noRows = {-1, rows};
        for (int row : noRows) {
            due.is(state + "width " + row, space.width(row), NONE);
            due.is(state + "bounded " + row, space.bounded(row), false);
            due.is(state + "walls " + row, space.walls(row), NONE);
            due.is(state + "beside " + row, space.beside(row, 0), NONE);
            due.is(state + "way from " + row, space.way(row, 0), NONE);
            due.is(state + "way to " + row, space.way(0, row), NONE);
            due.is(state + "step from " + row, space.step(row, 0), NONE);
            due.is(state + "step to " + row, space.step(0, row), NONE);
        }
        due.is(state + "step to itself", space.step(0, 0), NONE);
        due.is(state + "row", space.row(1000001, 0, 0), NONE);
        due.is(state + "face -1", space.face(numbers, -1), NONE);
        due.is(state + "face behind the last", space.face(numbers, space.count(2)), NONE);
    }

    private void refusedOthers(String state, SpaceWalls space, int numbers, int many) {
        due.is(state + "faces -1", space.faces(-1), NONE);
        due.is(state + "faces", space.faces(numbers + 1), NONE);
        due.is(state + "poly -1", space.poly(-1), 0);
        due.is(state + "poly", space.poly(numbers + 1), 0);
        due.is(state + "told 4", space.told(many - 1, 4), NONE);
        due.is(state + "left 1", space.left(1), NONE);
        due.is(state + "left 4", space.left(4), NONE);
        due.is(state + "left 37", space.left(37), NONE);
        due.is(state + "count -1", space.count(-1), NONE);
        due.is(state + "count 5", space.count(5), NONE);
    }

    private void constants() {
        due.terms("The constants: `NONE = -1`: There is none.");
        due.is("NONE", SpaceWalls.NONE, -1);
        SpaceWalls space = new SpaceWalls(1);
        due.is("there is no wall 0", space.told(0, 0), -1);
        due.is("there is no row 1", space.width(1), -1);
        due.is("there is a row 0", space.width(0), 1);
        due.is("x = 0", space.wall(1, 0, 0, 0), 0);
        due.is("there is a wall 0", space.told(0, 0), 1);
        due.is("there is a row 1", space.width(1), 0);
        due.is("there is no row 3", space.width(3), -1);
    }
}
