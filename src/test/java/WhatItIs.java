import java.util.ArrayList;
import java.util.Arrays;
import java.util.List;
import java.util.TreeSet;

/** The sentences that say what the class is, and how many calls an object has. */
final class WhatItIs {
    private static final int NONE = Boundary.NONE;
    private static final int[] PRIMES = {17, 19, 23, 29, 31};

    private final Boundary due;

    WhatItIs(Boundary due) {
        this.due = due;
    }

    void ask() {
        whole();
        calls();
    }

    private void whole() {
        due.begin("What it is", "Walls through space: planes that cut space into rooms; every face is told by its row"
            + " of signs, counts come out of one polynomial, shortest ways lead through as many walls as part two"
            + " rooms, and places of whole numbers are counted round a prime.");
        for (int numbers = 1; numbers <= 3; numbers++) {
            Renewed general = new Renewed(numbers);
            Renewed slices = new Renewed(numbers);
            Renewed bundle = new Renewed(numbers);
            for (int many = 0; many <= Spaces.MOST_WALLS; many++) {
                if (many > 0) {
                    int[] w = Spaces.generalWall(numbers, many - 1);
                    general.wall(w[0], w[1], w[2], w[3]);
                    slices.wall(1, 0, 0, many);
                    bundle.wall(w[0], w[1], w[2], 0);
                }
                askSpace("general", numbers, many, general);
                roundPrimes("general " + many, general);
                askSpace("slices", numbers, many, slices);
                roundPrimes("slices " + many, slices);
                // In a space of one number all walls through the place 0 are one.
                askSpace("bundle", numbers, numbers == 1 ? Math.min(many, 1) : many, bundle);
            }
        }
    }

    private void askSpace(String name, int numbers, int many, Renewed space) {
        String of = name + ", " + many + " walls of " + numbers + " numbers, ";
        due.is(of + "walls", space.ask().count(1), many);
        List<Integer> rooms = facesByRows(of, numbers, many, space);
        countsOfPolynomial(of, numbers, space);
        shortestWays(of, many, rooms, space);
    }

    /** No two faces have one row; the rooms are those of the greatest width, and each wall makes some more. */
    private List<Integer> facesByRows(String of, int numbers, int many, Renewed space) {
        TreeSet<Integer> rows = new TreeSet<>();
        List<Integer> rooms = new ArrayList<>();
        for (int width = 0; width <= numbers; width++) {
            int faces = space.ask().faces(width);
            for (int i = 0; i < faces; i++) {
                int row = space.ask().face(width, i);
                due.is(of + "row " + row + " is new", rows.add(row), true);
                due.is(of + "width " + row, space.ask().width(row), width);
                if (width == numbers) {
                    rooms.add(row);
                }
            }
        }
        due.is(of + "faces", space.ask().count(3), rows.size());
        due.is(of + "rooms", space.ask().count(2), rooms.size());
        due.is(of + "more rooms than walls", rooms.size() > many, true);
        return rooms;
    }

    /** Zaslavsky: without signs, rooms are the polynomial at t = -1, bounded ones that at t = 1. */
    private void countsOfPolynomial(String of, int numbers, Renewed space) {
        due.is(of + "rooms of the polynomial", Math.abs(valueAt(-1, space)), space.ask().count(2));
        int bounded = space.ask().count(4) == numbers ? Math.abs(valueAt(1, space)) : 0;
        due.is(of + "bounded rooms of the polynomial", space.ask().boundedRooms(), bounded);
    }

    private static int valueAt(int t, Renewed space) {
        int sum = 0;
        for (int i = 0; i <= 3; i++) {
            sum += space.ask().poly(i) * Spaces.power(t, i);
        }
        return sum;
    }

    /** From each room, how many rooms one must go through, by going everywhere. */
    private void shortestWays(String of, int many, List<Integer> rooms, Renewed space) {
        int[][] next = new int[rooms.size()][many];
        for (int i = 0; i < next.length; i++) {
            for (int wall = 0; wall < many; wall++) {
                next[i][wall] = rooms.indexOf(space.ask().beside(rooms.get(i), wall));
            }
        }
        for (int from = 0; from < next.length; from++) {
            int[] far = distances(next, from);
            for (int to = 0; to < next.length; to++) {
                String way = of + "way " + rooms.get(from) + " " + rooms.get(to);
                due.is(way, space.ask().way(rooms.get(from), rooms.get(to)), far[to]);
            }
        }
    }

    private static int[] distances(int[][] next, int from) {
        int[] far = new int[next.length];
        Arrays.fill(far, NONE);
        far[from] = 0;
        List<Integer> queue = new ArrayList<>(List.of(from));
        for (int i = 0; i < queue.size(); i++) {
            int at = queue.get(i);
            for (int to : next[at]) {
                if (to >= 0 && far[to] == NONE) {
                    far[to] = far[at] + 1;
                    queue.add(to);
                }
            }
        }
        return far;
    }

    /** These walls have the same heaps in common round these primes as in space, so it is the polynomial. */
    private void roundPrimes(String name, Renewed space) {
        for (int p : PRIMES) {
            due.is(name + " left " + p, space.ask().left(p), valueAt(p, space));
        }
    }

    /** The 511th and the 512th call are answered as any other; the 513th is not asked. */
    private void calls() {
        due.begin("What it is",
            "An object is used for at most 512 calls after it has been made; what later calls answer is free.");
        SpaceWalls asked = Spaces.general(3, 8);
        for (int call = 9; call <= 512; call++) {
            int width = call % 4;
            due.is("call " + call, asked.faces(width), new int[] {56, 196, 232, 93}[width]);
        }
        SpaceWalls refused = new SpaceWalls(2);
        for (int call = 1; call <= 511; call++) {
            due.is("call " + call, refused.wall(0, 0, 0, call % 9), NONE);
        }
        due.is("call 512", refused.wall(1, 2, 0, 3), 0);
        SpaceWalls changed = Spaces.general(3, 7);
        for (int call = 8; call + 3 <= 512; call += 4) {
            due.is("call " + call, changed.wall(0, 0, 1, 7), 7);
            due.is("call " + (call + 1), changed.count(3), 577);
            due.is("call " + (call + 2), changed.take(7), true);
            due.is("call " + (call + 3), changed.count(2), 64);
        }
        changedLast();
    }

    /** Walls that come and go in the last of 512 calls change what is asked as any others do. */
    private void changedLast() {
        SpaceWalls space = Spaces.general(3, 7);
        for (int call = 8; call <= 507; call++) {
            due.is("call " + call, space.count(2), 64);
        }
        due.is("call 508", space.wall(0, 0, 1, 7), 7);
        due.is("call 509", space.count(3), 577);
        due.is("call 510", space.take(7), true);
        due.is("call 511", space.count(2), 64);
        due.is("call 512", space.count(3), 35 + 126 + 154 + 64);
    }
}
