/** The sentences of "Terms", number 1: each at its boundary and on both sides of it. */
final class SpaceTerms {
    private static final int NONE = Boundary.NONE;

    private final Boundary due;

    SpaceTerms(Boundary due) {
        this.due = due;
    }

    void ask() {
        space();
        wall();
        atMostEight();
        sign();
        row();
        face();
        width();
        room();
        bounded();
    }

    private void space() {
        due.terms("SPACE has d NUMBERS (1, 2 or 3); a PLACE gives each of them a fraction.");
        for (int asked = 0; asked <= 4; asked++) {
            int numbers = Math.max(1, Math.min(3, asked));
            due.is("numbers of " + asked, new SpaceWalls(asked).count(0), numbers);
            due.is("x of " + asked, new SpaceWalls(asked).wall(1, 0, 0, 0), 0);
            due.is("y of " + asked, new SpaceWalls(asked).wall(0, 1, 0, 0), numbers >= 2 ? 0 : NONE);
            due.is("z of " + asked, new SpaceWalls(asked).wall(0, 0, 1, 0), numbers >= 3 ? 0 : NONE);
        }
        // No whole number, but fractions are at, between and beside 1/9 and 1/8.
        SpaceWalls line = Spaces.of(1, 9, 0, 0, 1, 8, 0, 0, 1);
        int[] widths = {1, 0, 1, NONE, NONE, 0, NONE, NONE, 1};
        for (int row = 0; row < widths.length; row++) {
            due.is("9 x = 1 and 8 x = 1, width " + row, line.width(row), widths[row]);
        }
        due.is("9 x = 1 and 8 x = 1, faces", line.count(3), 5);
        // The place 1/9, 1/9, 1/9, and a wall that comes near it on either side.
        for (int e = 2; e <= 4; e++) {
            SpaceWalls corner = Spaces.of(3, 9, 0, 0, 1, 0, 9, 0, 1, 0, 0, 9, 1, 9, 9, 9, e);
            due.is("9 x + 9 y + 9 z = " + e + " at the ninths", corner.width(40), e == 3 ? 0 : NONE);
            due.is("9 x + 9 y + 9 z = " + e + " beside the ninths", corner.width(13 + 27 * (e < 3 ? 2 : 0)),
                e == 3 ? NONE : 0);
        }
    }

    private void wall() {
        due.terms("A WALL are all PLACES x, y, z (as many as there are) with a x + b y + c z = e: a, b, c are"
            + " -9 .. 9, not all 0 (those of NUMBERS that SPACE hasn't are 0), e is -99 .. 99.");
        for (int numbers = 1; numbers <= 3; numbers++) {
            for (int i = 0; i < numbers; i++) {
                wallLimits(numbers, i, 9);
            }
            wallLimits(numbers, 3, 99);
            for (int i = numbers; i < 3; i++) {
                wallLimits(numbers, i, 0);
            }
            notAllZero(numbers);
        }
    }

    /** One of a, b, c, e at its limits and beyond, in a wall that is fine but for it. */
    private void wallLimits(int numbers, int which, int most) {
        int[] values = {Boundary.LEAST, -65536, -256, -most - 2, -most - 1, -most, -most + 1, 0, most - 1, most,
            most + 1, most + 2, 256, 65536, Boundary.GREATEST};
        for (int value : values) {
            int[] w = {2, numbers > 1 ? 3 : 0, numbers > 2 ? 5 : 0, 7};
            w[which] = value;
            if (which == 0 && numbers == 1 && value == 0) {
                continue;
            }
            String call = "of " + numbers + " numbers: wall " + w[0] + " " + w[1] + " " + w[2] + " " + w[3];
            if (value >= -most && value <= most) {
                SpaceWalls space = new SpaceWalls(numbers);
                due.is(call, space.wall(w[0], w[1], w[2], w[3]), 0);
                due.is(call + ", told", space.told(0, which), value);
                due.is(call + ", rooms", space.count(2), 2);
            } else {
                due.refused(call, () -> new SpaceWalls(numbers), s -> s.wall(w[0], w[1], w[2], w[3]), NONE);
                due.refused(call + " as the third", () -> Spaces.general(numbers, 2),
                    s -> s.wall(w[0], w[1], w[2], w[3]), NONE);
            }
        }
    }

    private void notAllZero(int numbers) {
        for (int e = -1; e <= 1; e++) {
            int height = e;
            due.refused("wall 0 0 0 " + e, () -> new SpaceWalls(numbers), s -> s.wall(0, 0, 0, height), NONE);
            for (int i = 0; i < numbers; i++) {
                for (int factor = -1; factor <= 1; factor += 2) {
                    int[] w = new int[3];
                    w[i] = factor;
                    SpaceWalls space = new SpaceWalls(numbers);
                    due.is("one that is not 0", space.wall(w[0], w[1], w[2], e), 0);
                    due.is("told of one that is not 0", space.told(0, i), factor);
                }
            }
        }
    }

    private void atMostEight() {
        due.terms("At most 8 WALLS, numbered from 0 on; no two are the same PLACES.");
        for (int d = 1; d <= 3; d++) {
            int numbers = d;
            SpaceWalls space = new SpaceWalls(numbers);
            for (int k = 0; k < 8; k++) {
                int[] w = Spaces.generalWall(numbers, k);
                due.is("wall " + k, space.wall(w[0], w[1], w[2], w[3]), k);
                due.is("walls", space.count(1), k + 1);
                due.is("its e", space.told(k, 3), w[3]);
                due.is("the next one's e", space.told(k + 1, 3), NONE);
            }
            due.refused("a ninth", () -> Spaces.general(numbers, 8), s -> s.wall(1, 0, 0, 99), NONE);
            due.is("a ninth", space.wall(1, 0, 0, 99), NONE);
            due.is("a tenth", space.wall(1, 0, 0, 98), NONE);
            due.is("walls", space.count(1), 8);
        }
        samePlaces(3, new int[] {2, 4, -6, 8}, new int[][] {{2, 4, -6, 8}, {1, 2, -3, 4}, {3, 6, -9, 12},
            {-1, -2, 3, -4}, {-2, -4, 6, -8}, {-3, -6, 9, -12}});
        samePlaces(3, new int[] {2, 4, -6, 0}, new int[][] {{1, 2, -3, 0}, {-3, -6, 9, 0}});
        samePlaces(3, new int[] {0, 0, 9, 99}, new int[][] {{0, 0, -9, -99}, {0, 0, 3, 33}, {0, 0, 6, 66}});
        samePlaces(3, new int[] {0, 6, 4, 2}, new int[][] {{0, 3, 2, 1}, {0, -9, -6, -3}});
        samePlaces(2, new int[] {6, -8, 0, 98}, new int[][] {{3, -4, 0, 49}, {-6, 8, 0, -98}});
        samePlaces(1, new int[] {2, 0, 0, 1}, new int[][] {{4, 0, 0, 2}, {-8, 0, 0, -4}, {6, 0, 0, 3}});
        samePlaces(1, new int[] {1, 0, 0, 0}, new int[][] {{9, 0, 0, 0}, {-9, 0, 0, 0}, {-1, 0, 0, 0}});
    }

    /** A wall, others of the same places, and all that are beside it by 1 in one of the four numbers. */
    private void samePlaces(int numbers, int[] wall, int[][] same) {
        for (int[] w : same) {
            due.refused("the same places: " + w[0] + " " + w[1] + " " + w[2] + " " + w[3],
                () -> Spaces.of(numbers, wall), s -> s.wall(w[0], w[1], w[2], w[3]), NONE);
        }
        for (int which = 0; which < 4; which++) {
            for (int more = -1; more <= 1; more += 2) {
                int[] w = wall.clone();
                w[which] += more;
                boolean fits = (which < numbers || which == 3) && Math.abs(w[which]) <= (which == 3 ? 99 : 9);
                // All walls a x = 0 of one number are the same.
                boolean other = which == 3 || numbers > 1 || wall[3] != 0;
                if (fits && other) {
                    due.is("other places: " + w[0] + " " + w[1] + " " + w[2] + " " + w[3],
                        Spaces.of(numbers, wall).wall(w[0], w[1], w[2], w[3]), 1);
                }
            }
        }
    }

    private void sign() {
        due.terms("The SIGN of a PLACE at a WALL is 0 if a x + b y + c z is below e, 1 if it is e, 2 if it is above.");
        int[] factors = {-9, -1, 1, 9};
        int[] places = {-11, -1, 0, 1, 11};
        for (int numbers = 1; numbers <= 3; numbers++) {
            for (int i = 0; i < numbers; i++) {
                for (int factor : factors) {
                    for (int place : places) {
                        signsRound(numbers, i, factor, place);
                    }
                }
            }
        }
        for (int e = -1; e <= 3; e++) {
            int want = e < 1 ? 2 : e == 1 ? 1 : 0;
            due.is("1 of x = " + e, Spaces.of(1, 1, 0, 0, e).row(1, 0, 0), want);
            due.is("1 less 3 and 3 of x - y + z = " + e, Spaces.of(3, 1, -1, 1, e).row(1, 3, 3), want);
        }
        due.is("0 below a half", Spaces.of(1, 2, 0, 0, 1).row(0, 0, 0), 0);
        due.is("1 above a half", Spaces.of(1, 2, 0, 0, 1).row(1, 0, 0), 2);
    }

    private void signsRound(int numbers, int axis, int factor, int place) {
        int[] w = new int[3];
        w[axis] = factor;
        SpaceWalls space = Spaces.of(numbers, w[0], w[1], w[2], factor * place);
        for (int more = -1; more <= 1; more++) {
            int[] at = new int[3];
            at[axis] = place + more;
            due.is(factor + " times number " + axis + " = " + factor * place + " at " + at[axis],
                space.row(at[0], at[1], at[2]), 1 + Integer.signum(factor) * more);
        }
    }

    private void row() {
        due.terms("The ROW of a PLACE is the sum of its SIGNS, that at WALL k times 3 to the power of k.");
        for (int numbers = 1; numbers <= 3; numbers++) {
            due.is("no walls", new SpaceWalls(numbers).row(1, 1, 1), 0);
            for (int many = 1; many <= 8; many++) {
                SpaceWalls space = Spaces.slices(numbers, many);
                int powers = Spaces.power(3, many);
                due.is(many + " walls, below all", space.row(-1, 0, 0), 0);
                due.is(many + " walls, on the first", space.row(0, 0, 0), 1);
                due.is(many + " walls, on the last", space.row(many - 1, 0, 0), powers - 1 - powers / 3);
                due.is(many + " walls, above all", space.row(many, 0, 0), powers - 1);
            }
        }
        SpaceWalls bundle = new SpaceWalls(2);
        for (int k = 0; k < 8; k++) {
            bundle.wall(1, k, 0, 0);
            due.is("on " + (k + 1) + " walls", bundle.row(0, 0, 0), (Spaces.power(3, k + 1) - 1) / 2);
        }
    }

    private void face() {
        due.terms("A FACE are all PLACES of one ROW, if there are any.");
        for (int e = -1; e <= 1; e++) {
            SpaceWalls flat = Spaces.of(2, 1, 0, 0, 0, 0, 1, 0, 0, 1, 1, 0, e);
            due.is("x = 0, y = 0, x + y = " + e + " on all", flat.width(13), e == 0 ? 0 : NONE);
            due.is("x = 0, y = 0, x + y = " + e + ", faces", flat.count(3), e == 0 ? 13 : 19);
            due.is("x = 0, y = 0, x + y = " + e + ", below all", flat.width(0), 2);
            due.is("x = 0, y = 0, x + y = " + e + ", only above the third", flat.width(18), e < 0 ? 2 : NONE);
            due.is("x = 0, y = 0, x + y = " + e + ", only below the third", flat.width(8), e > 0 ? 2 : NONE);
            SpaceWalls deep = Spaces.of(3, 1, 0, 0, 0, 0, 1, 0, 0, 0, 0, 1, 0, 1, 1, 1, e);
            due.is("x + y + z = " + e + " on all", deep.width(40), e == 0 ? 0 : NONE);
            due.is("x + y + z = " + e + ", faces", deep.count(3), e == 0 ? 51 : 65);
        }
        for (int many = 0; many <= 8; many++) {
            int powers = Spaces.power(3, many);
            for (int numbers = 1; numbers <= 3; numbers++) {
                SpaceWalls space = Spaces.slices(numbers, many);
                due.is(many + " walls, row -1", space.width(-1), NONE);
                due.is(many + " walls, first row", space.width(0), numbers);
                due.is(many + " walls, last row", space.width(powers - 1), numbers);
                due.is(many + " walls, row behind it", space.width(powers), NONE);
                due.is(many + " walls, faces", space.count(3), 2 * many + 1);
            }
        }
    }

    private void width() {
        due.terms("Its WIDTH is d less the RANK of the WALLS on which it is (RANK of WALLS: the greatest number of"
            + " them of which no sum of multiples of their a, b, c is 0, but with all multiples 0).");
        for (int numbers = 1; numbers <= 3; numbers++) {
            for (int many = 0; many <= 8; many++) {
                due.is(many + " walls side by side, rank", Spaces.slices(numbers, many).count(4), Math.min(1, many));
                due.is(many + " walls side by side, on one", Spaces.slices(numbers, many).width(1),
                    many == 0 ? NONE : numbers - 1);
                due.is(many + " walls, rank", Spaces.general(numbers, many).count(4), Math.min(numbers, many));
            }
        }
        for (int more = -1; more <= 1; more++) {
            int off = more == 0 ? 1 : 0;
            SpaceWalls flat = Spaces.of(2, 8, -8, 0, 0, 7, -7 + more, 0, 1);
            due.is("8 x - 8 y and 7 x less " + (7 - more) + " y, rank", flat.count(4), 2 - off);
            due.is("8 x - 8 y and 7 x less " + (7 - more) + " y, on both", flat.width(4), off == 1 ? NONE : 0);
            SpaceWalls fan = Spaces.of(3, 1, -1, 0, 0, 1, 0, -1, 0, 0, 1, -1 + more, 0);
            due.is("fan " + more + ", on all three", fan.width(13), off);
            due.is("fan " + more + ", rank", fan.count(4), 3 - off);
            SpaceWalls steep = Spaces.of(3, 9, 8, 7, 0, 8, 7, 6, 0, 7, 6, 5 + more, 0);
            due.is("steep " + more + ", on all three", steep.width(13), off);
            due.is("steep " + more + ", rank", steep.count(4), 3 - off);
        }
        for (int i = 0; i < 3; i++) {
            for (int more = -1; more <= 1; more++) {
                int[] w = new int[3];
                w[i] = 1;
                w[(i + 1) % 3] = 8;
                SpaceWalls pair = Spaces.of(3, w[0], w[1], w[2], 0);
                w[(i + 1) % 3] += more;
                pair.wall(w[0], w[1], w[2], 1);
                due.is("1 and 8 beside 1 and " + (8 + more) + ", rank", pair.count(4), more == 0 ? 1 : 2);
                due.is("1 and 8 beside 1 and " + (8 + more) + ", on both", pair.width(4), more == 0 ? NONE : 1);
            }
        }
        SpaceWalls book = new SpaceWalls(3);
        for (int k = 0; k < 7; k++) {
            book.wall(1, k, 0, 0);
            due.is((k + 1) + " walls along one line", book.width((Spaces.power(3, k + 1) - 1) / 2), k == 0 ? 2 : 1);
        }
        due.is("the eighth", book.wall(1, 7, 1, 0), 7);
        due.is("seven along one line, and one that isn't", book.width(3280), 0);
        due.is("the eighth goes", book.take(7), true);
        due.is("the eighth", book.wall(1, 7, 0, 0), 7);
        due.is("eight along one line", book.width(3280), 1);
    }

    private void room() {
        due.terms("A ROOM is a FACE that is on no WALL.");
        for (int numbers = 1; numbers <= 3; numbers++) {
            due.is("no walls: one room", new SpaceWalls(numbers).count(2), 1);
            due.is("no walls: row 0", new SpaceWalls(numbers).walls(0), 0);
            SpaceWalls space = Spaces.slices(numbers, 8);
            for (int k = 0; k < 8; k++) {
                int sign = Spaces.power(3, k);
                due.is("below wall " + k, space.walls(sign - 1) == NONE, false);
                due.is("on wall " + k, space.walls(sign - 1 + sign), NONE);
                due.is("above wall " + k, space.walls(sign - 1 + 2 * sign) == NONE, false);
            }
            due.is("eight walls side by side: rooms", space.count(2), 9);
        }
        SpaceWalls triangle = Spaces.triangle();
        for (int row = -1; row <= 27; row++) {
            boolean none = triangle.width(row) != 2;
            due.is("a room of row " + row, triangle.walls(row) == NONE, none);
            due.is("a way from row " + row, triangle.way(row, 8) == NONE, none);
        }
    }

    private void bounded() {
        due.terms("It is BOUNDED, if some number is above all NUMBERS (without sign) of all its PLACES.");
        for (int many = 0; many <= 8; many++) {
            SpaceWalls line = Spaces.slices(1, many);
            for (int k = 0; k <= many; k++) {
                due.is(many + " places, part " + k, line.bounded(Spaces.power(3, k) - 1), k > 0 && k < many);
            }
        }
        for (int more = -1; more <= 1; more++) {
            int one = more == 0 ? 0 : 1;
            SpaceWalls strip = Spaces.of(2, 8, -8, 0, 0, 8, -8 + more, 0, 8, 9, 9, 0, 99);
            askBounded("a strip that turns by " + more, strip, one);
            SpaceWalls mast = Spaces.of(3, 1, 0, more, 0, 0, 1, 0, 0, 1, 1, 0, 2, 0, 0, 1, 5);
            askBounded("a mast that leans by " + more, mast, one);
        }
        // Nearly side by side: the walls cross at 1485, 1683.
        askBounded("a far corner", Spaces.of(2, 8, -7, 0, 99, 9, -8, 0, -99, 1, 0, 0, 99), 1);
        SpaceWalls tube = Spaces.tube();
        askBounded("a tube", tube, 0);
        tube.wall(0, 0, 1, 0);
        askBounded("a tube with one end", tube, 0);
        tube.wall(0, 0, 1, 1);
        askBounded("a tube with two ends", tube, 1);
    }

    private void askBounded(String name, SpaceWalls space, int want) {
        int numbers = space.count(0);
        int rooms = space.count(2);
        int bounded = 0;
        for (int i = 0; i < rooms; i++) {
            bounded += space.bounded(space.face(numbers, i)) ? 1 : 0;
        }
        due.is(name + ": rooms that are bounded", bounded, want);
        due.is(name + ": boundedRooms", space.boundedRooms(), want);
    }
}
